/-! the law's loop, printed by wip/p34/genall.py -/
theorem zt_l307 : zchk zRUL 3 xBY zIN zCF [] zgl_l307 20000 [(12, 3, 92), (12, 3, 93), (5, 0, 0), (5, 1, 0)] zc_l307 = true := by decide +kernel
theorem zt_l308 : zchk zRUL 3 xBY zIN zCF [] zgl_l307 20000 [(12, 2, 91), (21, 2, 90)] zc_l308 = true := by decide +kernel
theorem zt_l309 : zchk zRUL 3 xBY zIN zCF [] zgl_l307 20000 [(12, 2, 91), (21, 2, 90)] zc_l309 = true := by decide +kernel
theorem zt_l310 : zchk zRUL 3 xBY zIN zCF [] zgl_l307 20000 [(12, 2, 91), (21, 2, 90)] zc_l310 = true := by decide +kernel
theorem zt_l311 : zchk zRUL 3 xBY zIN zCF [] zgl_l307 20000 [(12, 2, 91), (21, 2, 90)] zc_l311 = true := by decide +kernel
theorem zt_l312 : zchk zRUL 3 xBY zIN zCF [] zgl_l307 20000 [(12, 2, 91), (21, 2, 90)] zc_l312 = true := by decide +kernel
theorem zt_l313 : zchk zRUL 3 xBY zIN zCF [] zgl_l307 20000 [(12, 2, 91), (21, 2, 90)] zc_l313 = true := by decide +kernel
theorem zt_l314 : zchk zRUL 3 xBY zIN zCF [] zgl_l307 20000 [(12, 2, 91), (21, 2, 90)] zc_l314 = true := by decide +kernel
theorem zt_l315 : zchk zRUL 3 xBY zIN zCF [] zgl_l307 20000 [(12, 2, 91), (21, 2, 90)] zc_l315 = true := by decide +kernel
theorem zt_l316 : zchk zRUL 3 xBY zIN zCF [] zgl_l307 20000 [(12, 2, 91), (21, 2, 90)] zc_l316 = true := by decide +kernel
theorem zt_l317 : zchk zRUL 3 xBY zIN zCF [] zgl_l307 20000 [(12, 2, 91), (21, 2, 90)] zc_l317 = true := by decide +kernel
theorem zt_l318 : zchk zRUL 3 xBY zIN zCF [] zgl_l307 20000 [(12, 2, 91), (21, 2, 90)] zc_l318 = true := by decide +kernel
theorem zt_l319 : zchk zRUL 3 xBY zIN zCF [] zgl_l307 20000 [(12, 2, 91), (21, 2, 90)] zc_l319 = true := by decide +kernel
theorem zt_l320 : zchk zRUL 3 xBY zIN zCF [] zgl_l307 20000 [(12, 2, 91), (21, 2, 90)] zc_l320 = true := by decide +kernel
theorem zt_l321 : zchk zRUL 3 xBY zIN zCF [] zgl_l307 20000 [(12, 2, 91), (21, 2, 90)] zc_l321 = true := by decide +kernel
theorem zt_l322 : zchk zRUL 3 xBY zIN zCF [] zgl_l307 20000 [(12, 2, 91), (21, 2, 90)] zc_l322 = true := by decide +kernel
theorem zga_l307_0 : ∀ p ∈ zgh_l307_0, zchk zRUL 3 xBY zIN zCF [] zgl_l307 20000 p.2 p.1 = true := List.forall_mem_cons.mpr ⟨zt_l307, List.forall_mem_cons.mpr ⟨zt_l308, List.forall_mem_cons.mpr ⟨zt_l309, List.forall_mem_cons.mpr ⟨zt_l310, List.forall_mem_cons.mpr ⟨zt_l311, List.forall_mem_cons.mpr ⟨zt_l312, List.forall_mem_cons.mpr ⟨zt_l313, List.forall_mem_cons.mpr ⟨zt_l314, List.forall_mem_cons.mpr ⟨zt_l315, List.forall_mem_cons.mpr ⟨zt_l316, List.forall_mem_cons.mpr ⟨zt_l317, List.forall_mem_cons.mpr ⟨zt_l318, List.forall_mem_cons.mpr ⟨zt_l319, List.forall_mem_cons.mpr ⟨zt_l320, List.forall_mem_cons.mpr ⟨zt_l321, List.forall_mem_cons.mpr ⟨zt_l322, fun _ h => absurd h List.not_mem_nil⟩⟩⟩⟩⟩⟩⟩⟩⟩⟩⟩⟩⟩⟩⟩⟩
theorem zt_l323 : zchk zRUL 3 xBY zIN zCF [] zgl_l307 20000 [(12, 2, 91), (21, 2, 90)] zc_l323 = true := by decide +kernel
theorem zt_l324 : zchk zRUL 3 xBY zIN zCF [] zgl_l307 20000 [(12, 2, 91), (21, 2, 90)] zc_l324 = true := by decide +kernel
theorem zt_l325 : zchk zRUL 3 xBY zIN zCF [] zgl_l307 20000 [(12, 2, 91), (21, 2, 90)] zc_l325 = true := by decide +kernel
theorem zt_l326 : zchk zRUL 3 xBY zIN zCF [] zgl_l307 20000 [(12, 2, 91), (21, 2, 90)] zc_l326 = true := by decide +kernel
theorem zt_l327 : zchk zRUL 3 xBY zIN zCF [] zgl_l307 20000 [(12, 2, 91), (21, 2, 90)] zc_l327 = true := by decide +kernel
theorem zt_l328 : zchk zRUL 3 xBY zIN zCF [] zgl_l307 20000 [(12, 2, 91), (21, 2, 90)] zc_l328 = true := by decide +kernel
theorem zt_l329 : zchk zRUL 3 xBY zIN zCF [] zgl_l307 20000 [(12, 2, 91), (21, 2, 90)] zc_l329 = true := by decide +kernel
theorem zt_l330 : zchk zRUL 3 xBY zIN zCF [] zgl_l307 20000 [(12, 2, 91), (21, 2, 90)] zc_l330 = true := by decide +kernel
theorem zt_l331 : zchk zRUL 3 xBY zIN zCF [] zgl_l307 20000 [(12, 2, 91), (21, 2, 90)] zc_l331 = true := by decide +kernel
theorem zt_l332 : zchk zRUL 3 xBY zIN zCF [] zgl_l307 20000 [(12, 2, 91), (21, 2, 90)] zc_l332 = true := by decide +kernel
theorem zt_l333 : zchk zRUL 3 xBY zIN zCF [] zgl_l307 20000 [(12, 2, 91), (21, 2, 90)] zc_l333 = true := by decide +kernel
theorem zt_l334 : zchk zRUL 3 xBY zIN zCF [] zgl_l307 20000 [(12, 2, 91), (21, 2, 90)] zc_l334 = true := by decide +kernel
theorem zt_l335 : zchk zRUL 3 xBY zIN zCF [] zgl_l307 20000 [(12, 2, 91), (21, 2, 90)] zc_l335 = true := by decide +kernel
theorem zt_l336 : zchk zRUL 3 xBY zIN zCF [] zgl_l307 20000 [(12, 2, 91), (21, 2, 90)] zc_l336 = true := by decide +kernel
theorem zt_l337 : zchk zRUL 3 xBY zIN zCF [] zgl_l307 20000 [(12, 2, 91), (21, 2, 90)] zc_l337 = true := by decide +kernel
theorem zt_l338 : zchk zRUL 3 xBY zIN zCF [] zgl_l307 20000 [(12, 2, 91), (21, 2, 90)] zc_l338 = true := by decide +kernel
theorem zga_l307_1 : ∀ p ∈ zgh_l307_1, zchk zRUL 3 xBY zIN zCF [] zgl_l307 20000 p.2 p.1 = true := List.forall_mem_cons.mpr ⟨zt_l323, List.forall_mem_cons.mpr ⟨zt_l324, List.forall_mem_cons.mpr ⟨zt_l325, List.forall_mem_cons.mpr ⟨zt_l326, List.forall_mem_cons.mpr ⟨zt_l327, List.forall_mem_cons.mpr ⟨zt_l328, List.forall_mem_cons.mpr ⟨zt_l329, List.forall_mem_cons.mpr ⟨zt_l330, List.forall_mem_cons.mpr ⟨zt_l331, List.forall_mem_cons.mpr ⟨zt_l332, List.forall_mem_cons.mpr ⟨zt_l333, List.forall_mem_cons.mpr ⟨zt_l334, List.forall_mem_cons.mpr ⟨zt_l335, List.forall_mem_cons.mpr ⟨zt_l336, List.forall_mem_cons.mpr ⟨zt_l337, List.forall_mem_cons.mpr ⟨zt_l338, fun _ h => absurd h List.not_mem_nil⟩⟩⟩⟩⟩⟩⟩⟩⟩⟩⟩⟩⟩⟩⟩⟩
theorem zt_l339 : zchk zRUL 3 xBY zIN zCF [] zgl_l307 20000 [(12, 2, 91), (21, 2, 90)] zc_l339 = true := by decide +kernel
theorem zt_l340 : zchk zRUL 3 xBY zIN zCF [] zgl_l307 20000 [(12, 2, 91), (21, 2, 90)] zc_l340 = true := by decide +kernel
theorem zt_l341 : zchk zRUL 3 xBY zIN zCF [] zgl_l307 20000 [(12, 2, 91), (21, 2, 90)] zc_l341 = true := by decide +kernel
theorem zt_l342 : zchk zRUL 3 xBY zIN zCF [] zgl_l307 20000 [(12, 2, 91), (21, 2, 90)] zc_l342 = true := by decide +kernel
theorem zt_l343 : zchk zRUL 3 xBY zIN zCF [] zgl_l307 20000 [(12, 2, 91), (21, 2, 90)] zc_l343 = true := by decide +kernel
theorem zt_l344 : zchk zRUL 3 xBY zIN zCF [] zgl_l307 20000 [(12, 2, 91), (21, 2, 90)] zc_l344 = true := by decide +kernel
theorem zt_l345 : zchk zRUL 3 xBY zIN zCF [] zgl_l307 20000 [(12, 2, 91), (21, 2, 90)] zc_l345 = true := by decide +kernel
theorem zt_l346 : zchk zRUL 3 xBY zIN zCF [] zgl_l307 20000 [(12, 2, 91), (21, 2, 90)] zc_l346 = true := by decide +kernel
theorem zt_l347 : zchk zRUL 3 xBY zIN zCF [] zgl_l307 20000 [(12, 2, 91), (21, 2, 90)] zc_l347 = true := by decide +kernel
theorem zt_l348 : zchk zRUL 3 xBY zIN zCF [] zgl_l307 20000 [(12, 2, 91), (21, 2, 90)] zc_l348 = true := by decide +kernel
theorem zt_l349 : zchk zRUL 3 xBY zIN zCF [] zgl_l307 20000 [(12, 2, 91), (21, 2, 90)] zc_l349 = true := by decide +kernel
theorem zt_l350 : zchk zRUL 3 xBY zIN zCF [] zgl_l307 20000 [(12, 2, 91), (21, 2, 90)] zc_l350 = true := by decide +kernel
theorem zt_l351 : zchk zRUL 3 xBY zIN zCF [] zgl_l307 20000 [(12, 2, 91), (21, 2, 90)] zc_l351 = true := by decide +kernel
theorem zt_l352 : zchk zRUL 3 xBY zIN zCF [] zgl_l307 20000 [(12, 2, 91), (21, 2, 90)] zc_l352 = true := by decide +kernel
theorem zt_l353 : zchk zRUL 3 xBY zIN zCF [] zgl_l307 20000 [(12, 2, 91), (21, 2, 90)] zc_l353 = true := by decide +kernel
theorem zt_l354 : zchk zRUL 3 xBY zIN zCF [] zgl_l307 20000 [(12, 2, 91), (21, 2, 90)] zc_l354 = true := by decide +kernel
theorem zga_l307_2 : ∀ p ∈ zgh_l307_2, zchk zRUL 3 xBY zIN zCF [] zgl_l307 20000 p.2 p.1 = true := List.forall_mem_cons.mpr ⟨zt_l339, List.forall_mem_cons.mpr ⟨zt_l340, List.forall_mem_cons.mpr ⟨zt_l341, List.forall_mem_cons.mpr ⟨zt_l342, List.forall_mem_cons.mpr ⟨zt_l343, List.forall_mem_cons.mpr ⟨zt_l344, List.forall_mem_cons.mpr ⟨zt_l345, List.forall_mem_cons.mpr ⟨zt_l346, List.forall_mem_cons.mpr ⟨zt_l347, List.forall_mem_cons.mpr ⟨zt_l348, List.forall_mem_cons.mpr ⟨zt_l349, List.forall_mem_cons.mpr ⟨zt_l350, List.forall_mem_cons.mpr ⟨zt_l351, List.forall_mem_cons.mpr ⟨zt_l352, List.forall_mem_cons.mpr ⟨zt_l353, List.forall_mem_cons.mpr ⟨zt_l354, fun _ h => absurd h List.not_mem_nil⟩⟩⟩⟩⟩⟩⟩⟩⟩⟩⟩⟩⟩⟩⟩⟩
theorem zt_l355 : zchk zRUL 3 xBY zIN zCF [] zgl_l307 20000 [(12, 2, 91), (21, 2, 90)] zc_l355 = true := by decide +kernel
theorem zt_l356 : zchk zRUL 3 xBY zIN zCF [] zgl_l307 20000 [(12, 2, 91), (21, 2, 90)] zc_l356 = true := by decide +kernel
theorem zt_l357 : zchk zRUL 3 xBY zIN zCF [] zgl_l307 20000 [(12, 2, 91), (21, 2, 90)] zc_l357 = true := by decide +kernel
theorem zt_l358 : zchk zRUL 3 xBY zIN zCF [] zgl_l307 20000 [(12, 2, 91), (21, 2, 90)] zc_l358 = true := by decide +kernel
theorem zt_l359 : zchk zRUL 3 xBY zIN zCF [] zgl_l307 20000 [(12, 2, 91), (21, 2, 90)] zc_l359 = true := by decide +kernel
theorem zt_l360 : zchk zRUL 3 xBY zIN zCF [] zgl_l307 20000 [(12, 2, 91), (21, 2, 90)] zc_l360 = true := by decide +kernel
theorem zt_l361 : zchk zRUL 3 xBY zIN zCF [] zgl_l307 20000 [(12, 2, 91), (21, 2, 90)] zc_l361 = true := by decide +kernel
theorem zt_l362 : zchk zRUL 3 xBY zIN zCF [] zgl_l307 20000 [(12, 2, 91), (21, 2, 90)] zc_l362 = true := by decide +kernel
theorem zt_l363 : zchk zRUL 3 xBY zIN zCF [] zgl_l307 20000 [(12, 2, 91), (21, 2, 90)] zc_l363 = true := by decide +kernel
theorem zt_l364 : zchk zRUL 3 xBY zIN zCF [] zgl_l307 20000 [(12, 2, 91), (21, 2, 90)] zc_l364 = true := by decide +kernel
theorem zt_l365 : zchk zRUL 3 xBY zIN zCF [] zgl_l307 20000 [(12, 2, 91), (21, 2, 90)] zc_l365 = true := by decide +kernel
theorem zt_l366 : zchk zRUL 3 xBY zIN zCF [] zgl_l307 20000 [(12, 2, 91), (21, 2, 90)] zc_l366 = true := by decide +kernel
theorem zt_l367 : zchk zRUL 3 xBY zIN zCF [] zgl_l307 20000 [(12, 2, 91), (21, 2, 90)] zc_l367 = true := by decide +kernel
theorem zt_l368 : zchk zRUL 3 xBY zIN zCF [] zgl_l307 20000 [(12, 2, 91), (21, 2, 90)] zc_l368 = true := by decide +kernel
theorem zt_l369 : zchk zRUL 3 xBY zIN zCF [] zgl_l307 20000 [(12, 2, 91), (21, 2, 90)] zc_l369 = true := by decide +kernel
theorem zt_l370 : zchk zRUL 3 xBY zIN zCF [] zgl_l307 20000 [(12, 2, 91), (21, 2, 90)] zc_l370 = true := by decide +kernel
theorem zga_l307_3 : ∀ p ∈ zgh_l307_3, zchk zRUL 3 xBY zIN zCF [] zgl_l307 20000 p.2 p.1 = true := List.forall_mem_cons.mpr ⟨zt_l355, List.forall_mem_cons.mpr ⟨zt_l356, List.forall_mem_cons.mpr ⟨zt_l357, List.forall_mem_cons.mpr ⟨zt_l358, List.forall_mem_cons.mpr ⟨zt_l359, List.forall_mem_cons.mpr ⟨zt_l360, List.forall_mem_cons.mpr ⟨zt_l361, List.forall_mem_cons.mpr ⟨zt_l362, List.forall_mem_cons.mpr ⟨zt_l363, List.forall_mem_cons.mpr ⟨zt_l364, List.forall_mem_cons.mpr ⟨zt_l365, List.forall_mem_cons.mpr ⟨zt_l366, List.forall_mem_cons.mpr ⟨zt_l367, List.forall_mem_cons.mpr ⟨zt_l368, List.forall_mem_cons.mpr ⟨zt_l369, List.forall_mem_cons.mpr ⟨zt_l370, fun _ h => absurd h List.not_mem_nil⟩⟩⟩⟩⟩⟩⟩⟩⟩⟩⟩⟩⟩⟩⟩⟩
theorem zt_l371 : zchk zRUL 3 xBY zIN zCF [] zgl_l307 20000 [(12, 2, 91), (21, 2, 90)] zc_l371 = true := by decide +kernel
theorem zt_l372 : zchk zRUL 3 xBY zIN zCF [] zgl_l307 20000 [(12, 2, 91), (21, 2, 90)] zc_l372 = true := by decide +kernel
theorem zt_l373 : zchk zRUL 3 xBY zIN zCF [] zgl_l307 20000 [(12, 2, 91), (21, 2, 90)] zc_l373 = true := by decide +kernel
theorem zt_l374 : zchk zRUL 3 xBY zIN zCF [] zgl_l307 20000 [(12, 2, 91), (21, 2, 90)] zc_l374 = true := by decide +kernel
theorem zt_l375 : zchk zRUL 3 xBY zIN zCF [] zgl_l307 20000 [(12, 2, 91), (21, 2, 90)] zc_l375 = true := by decide +kernel
theorem zt_l376 : zchk zRUL 3 xBY zIN zCF [] zgl_l307 20000 [(12, 2, 91), (21, 2, 90)] zc_l376 = true := by decide +kernel
theorem zt_l377 : zchk zRUL 3 xBY zIN zCF [] zgl_l307 20000 [(12, 2, 91), (21, 2, 90)] zc_l377 = true := by decide +kernel
theorem zt_l378 : zchk zRUL 3 xBY zIN zCF [] zgl_l307 20000 [(12, 2, 91), (21, 2, 90)] zc_l378 = true := by decide +kernel
theorem zt_l379 : zchk zRUL 3 xBY zIN zCF [] zgl_l307 20000 [(12, 2, 91), (21, 2, 90)] zc_l379 = true := by decide +kernel
theorem zt_l380 : zchk zRUL 3 xBY zIN zCF [] zgl_l307 20000 [(12, 2, 91), (21, 2, 90)] zc_l380 = true := by decide +kernel
theorem zt_l381 : zchk zRUL 3 xBY zIN zCF [] zgl_l307 20000 [(12, 2, 91), (21, 2, 90)] zc_l381 = true := by decide +kernel
theorem zt_l382 : zchk zRUL 3 xBY zIN zCF [] zgl_l307 20000 [(12, 2, 91), (21, 2, 90)] zc_l382 = true := by decide +kernel
theorem zt_l383 : zchk zRUL 3 xBY zIN zCF [] zgl_l307 20000 [(12, 2, 91), (21, 2, 90)] zc_l383 = true := by decide +kernel
theorem zt_l384 : zchk zRUL 3 xBY zIN zCF [] zgl_l307 20000 [(12, 2, 91), (21, 2, 90)] zc_l384 = true := by decide +kernel
theorem zt_l385 : zchk zRUL 3 xBY zIN zCF [] zgl_l307 20000 [(12, 2, 91), (21, 2, 90)] zc_l385 = true := by decide +kernel
theorem zt_l386 : zchk zRUL 3 xBY zIN zCF [] zgl_l307 20000 [(12, 2, 91), (21, 2, 90)] zc_l386 = true := by decide +kernel
theorem zga_l307_4 : ∀ p ∈ zgh_l307_4, zchk zRUL 3 xBY zIN zCF [] zgl_l307 20000 p.2 p.1 = true := List.forall_mem_cons.mpr ⟨zt_l371, List.forall_mem_cons.mpr ⟨zt_l372, List.forall_mem_cons.mpr ⟨zt_l373, List.forall_mem_cons.mpr ⟨zt_l374, List.forall_mem_cons.mpr ⟨zt_l375, List.forall_mem_cons.mpr ⟨zt_l376, List.forall_mem_cons.mpr ⟨zt_l377, List.forall_mem_cons.mpr ⟨zt_l378, List.forall_mem_cons.mpr ⟨zt_l379, List.forall_mem_cons.mpr ⟨zt_l380, List.forall_mem_cons.mpr ⟨zt_l381, List.forall_mem_cons.mpr ⟨zt_l382, List.forall_mem_cons.mpr ⟨zt_l383, List.forall_mem_cons.mpr ⟨zt_l384, List.forall_mem_cons.mpr ⟨zt_l385, List.forall_mem_cons.mpr ⟨zt_l386, fun _ h => absurd h List.not_mem_nil⟩⟩⟩⟩⟩⟩⟩⟩⟩⟩⟩⟩⟩⟩⟩⟩
theorem zt_l387 : zchk zRUL 3 xBY zIN zCF [] zgl_l307 20000 [(12, 2, 91), (21, 2, 90)] zc_l387 = true := by decide +kernel
theorem zt_l388 : zchk zRUL 3 xBY zIN zCF [] zgl_l307 20000 [(12, 2, 91), (21, 2, 90)] zc_l388 = true := by decide +kernel
theorem zt_l389 : zchk zRUL 3 xBY zIN zCF [] zgl_l307 20000 [(12, 2, 91), (21, 2, 90)] zc_l389 = true := by decide +kernel
theorem zt_l390 : zchk zRUL 3 xBY zIN zCF [] zgl_l307 20000 [(12, 2, 91), (21, 2, 90)] zc_l390 = true := by decide +kernel
theorem zt_l391 : zchk zRUL 3 xBY zIN zCF [] zgl_l307 20000 [(12, 2, 91), (21, 2, 90)] zc_l391 = true := by decide +kernel
theorem zt_l392 : zchk zRUL 3 xBY zIN zCF [] zgl_l307 20000 [(12, 2, 91), (21, 2, 90)] zc_l392 = true := by decide +kernel
theorem zt_l393 : zchk zRUL 3 xBY zIN zCF [] zgl_l307 20000 [(12, 2, 91), (21, 2, 90)] zc_l393 = true := by decide +kernel
theorem zt_l394 : zchk zRUL 3 xBY zIN zCF [] zgl_l307 20000 [(12, 2, 91), (21, 2, 90)] zc_l394 = true := by decide +kernel
theorem zt_l395 : zchk zRUL 3 xBY zIN zCF [] zgl_l307 20000 [(12, 2, 91), (21, 2, 90)] zc_l395 = true := by decide +kernel
theorem zt_l396 : zchk zRUL 3 xBY zIN zCF [] zgl_l307 20000 [(12, 2, 91), (21, 2, 90)] zc_l396 = true := by decide +kernel
theorem zt_l397 : zchk zRUL 3 xBY zIN zCF [] zgl_l307 20000 [(12, 2, 91), (21, 2, 90)] zc_l397 = true := by decide +kernel
theorem zt_l398 : zchk zRUL 3 xBY zIN zCF [] zgl_l307 20000 [(12, 2, 91), (21, 2, 90)] zc_l398 = true := by decide +kernel
theorem zt_l399 : zchk zRUL 3 xBY zIN zCF [] zgl_l307 20000 [(12, 2, 91), (21, 2, 90)] zc_l399 = true := by decide +kernel
theorem zt_l400 : zchk zRUL 3 xBY zIN zCF [] zgl_l307 20000 [(12, 2, 91), (21, 2, 90)] zc_l400 = true := by decide +kernel
theorem zt_l401 : zchk zRUL 3 xBY zIN zCF [] zgl_l307 20000 [(12, 2, 91), (21, 2, 90)] zc_l401 = true := by decide +kernel
theorem zt_l402 : zchk zRUL 3 xBY zIN zCF [] zgl_l307 20000 [(12, 2, 91), (21, 2, 90)] zc_l402 = true := by decide +kernel
theorem zga_l307_5 : ∀ p ∈ zgh_l307_5, zchk zRUL 3 xBY zIN zCF [] zgl_l307 20000 p.2 p.1 = true := List.forall_mem_cons.mpr ⟨zt_l387, List.forall_mem_cons.mpr ⟨zt_l388, List.forall_mem_cons.mpr ⟨zt_l389, List.forall_mem_cons.mpr ⟨zt_l390, List.forall_mem_cons.mpr ⟨zt_l391, List.forall_mem_cons.mpr ⟨zt_l392, List.forall_mem_cons.mpr ⟨zt_l393, List.forall_mem_cons.mpr ⟨zt_l394, List.forall_mem_cons.mpr ⟨zt_l395, List.forall_mem_cons.mpr ⟨zt_l396, List.forall_mem_cons.mpr ⟨zt_l397, List.forall_mem_cons.mpr ⟨zt_l398, List.forall_mem_cons.mpr ⟨zt_l399, List.forall_mem_cons.mpr ⟨zt_l400, List.forall_mem_cons.mpr ⟨zt_l401, List.forall_mem_cons.mpr ⟨zt_l402, fun _ h => absurd h List.not_mem_nil⟩⟩⟩⟩⟩⟩⟩⟩⟩⟩⟩⟩⟩⟩⟩⟩
theorem zt_l403 : zchk zRUL 3 xBY zIN zCF [] zgl_l307 20000 [(12, 2, 91), (21, 2, 90)] zc_l403 = true := by decide +kernel
theorem zt_l404 : zchk zRUL 3 xBY zIN zCF [] zgl_l307 20000 [(12, 2, 91), (21, 2, 90)] zc_l404 = true := by decide +kernel
theorem zt_l405 : zchk zRUL 3 xBY zIN zCF [] zgl_l307 20000 [(12, 2, 91), (21, 2, 90)] zc_l405 = true := by decide +kernel
theorem zt_l406 : zchk zRUL 3 xBY zIN zCF [] zgl_l307 20000 [(12, 2, 91), (21, 2, 90)] zc_l406 = true := by decide +kernel
theorem zt_l407 : zchk zRUL 3 xBY zIN zCF [] zgl_l307 20000 [(12, 2, 91), (21, 2, 90)] zc_l407 = true := by decide +kernel
theorem zga_l307_6 : ∀ p ∈ zgh_l307_6, zchk zRUL 3 xBY zIN zCF [] zgl_l307 20000 p.2 p.1 = true := List.forall_mem_cons.mpr ⟨zt_l403, List.forall_mem_cons.mpr ⟨zt_l404, List.forall_mem_cons.mpr ⟨zt_l405, List.forall_mem_cons.mpr ⟨zt_l406, List.forall_mem_cons.mpr ⟨zt_l407, fun _ h => absurd h List.not_mem_nil⟩⟩⟩⟩⟩
theorem zk_l307 {g : yG} {J : zJp} (hy : zHy g J) : zCok g zCF J zc_l307 := zgp2 hy (CT := []) (fun _ h => absurd h List.not_mem_nil) (fuel := 20000) (L := zgh_l307_0 ++ (zgh_l307_1 ++ (zgh_l307_2 ++ (zgh_l307_3 ++ (zgh_l307_4 ++ (zgh_l307_5 ++ (zgh_l307_6))))))) zge_l307 (List.forall_mem_append.mpr ⟨zga_l307_0, List.forall_mem_append.mpr ⟨zga_l307_1, List.forall_mem_append.mpr ⟨zga_l307_2, List.forall_mem_append.mpr ⟨zga_l307_3, List.forall_mem_append.mpr ⟨zga_l307_4, List.forall_mem_append.mpr ⟨zga_l307_5, zga_l307_6⟩⟩⟩⟩⟩⟩) (zc_l307, [(12, 3, 92), (12, 3, 93), (5, 0, 0), (5, 1, 0)]) (List.mem_append_left _ List.mem_cons_self)
/-- GridLawsModel.later, row 0 -/
def zc_l408 : zC := (287, 0, 1, [(3, 88, .ofNat 0), (1, 0, .ofNat 0)], ([(88, (0, 0, .ofNat 28), (1, 1, .ofNat 0)), (1049, (1, 0, .ofNat 0), (0, 0, .ofNat 0))], []), [(.ofNat 100, .ofNat 199, 0, .ofNat 0), (.ofNat 0, .ofNat 100000, 0, .ofNat 0)], [], [(some (0, 0, .negSucc 0), ([], []), [(.ofNat 100, .ofNat 199, 0, .ofNat 0), (.ofNat 0, .ofNat 100000, 0, .ofNat 0)])], [(false, (0, 0, .ofNat 1))])
/-- GridLawsModel.later, row 5 -/
def zc_l409 : zC := (287, 5, 1, [(3, 88, .ofNat 0), (0, 0, .ofNat 100)], ([(88, (0, 0, .ofNat 28), (1, 0, .ofNat 0)), (1049, (0, 0, .ofNat 100), (0, 0, .ofNat 0))], []), [(.ofNat 0, .ofNat 100000, 0, .ofNat 0)], [], [(some (0, 0, .negSucc 0), ([], []), [(.ofNat 0, .ofNat 100000, 0, .ofNat 0)])], [(false, (0, 0, .ofNat 0))])
/-- GridLawsModel.later, row 5 -/
def zc_l410 : zC := (287, 5, 1, [(3, 88, .ofNat 0), (0, 0, .ofNat 101)], ([(88, (0, 0, .ofNat 28), (1, 0, .ofNat 0)), (1049, (0, 0, .ofNat 101), (0, 0, .ofNat 0))], []), [(.ofNat 0, .ofNat 100000, 0, .ofNat 0)], [], [(some (0, 0, .negSucc 0), ([], []), [(.ofNat 0, .ofNat 100000, 0, .ofNat 0)])], [(false, (0, 0, .ofNat 0))])
/-- GridLawsModel.later, row 5 -/
def zc_l411 : zC := (287, 5, 1, [(3, 88, .ofNat 0), (0, 0, .ofNat 102)], ([(88, (0, 0, .ofNat 28), (1, 0, .ofNat 0)), (1049, (0, 0, .ofNat 102), (0, 0, .ofNat 0))], []), [(.ofNat 0, .ofNat 100000, 0, .ofNat 0)], [], [(some (0, 0, .negSucc 0), ([], []), [(.ofNat 0, .ofNat 100000, 0, .ofNat 0)])], [(false, (0, 0, .ofNat 0))])
/-- GridLawsModel.later, row 5 -/
def zc_l412 : zC := (287, 5, 1, [(3, 88, .ofNat 0), (0, 0, .ofNat 103)], ([(88, (0, 0, .ofNat 28), (1, 0, .ofNat 0)), (1049, (0, 0, .ofNat 103), (0, 0, .ofNat 0))], []), [(.ofNat 0, .ofNat 100000, 0, .ofNat 0)], [], [(some (0, 0, .negSucc 0), ([], []), [(.ofNat 0, .ofNat 100000, 0, .ofNat 0)])], [(false, (0, 0, .ofNat 0))])
/-- GridLawsModel.later, row 5 -/
def zc_l413 : zC := (287, 5, 1, [(3, 88, .ofNat 0), (0, 0, .ofNat 104)], ([(88, (0, 0, .ofNat 28), (1, 0, .ofNat 0)), (1049, (0, 0, .ofNat 104), (0, 0, .ofNat 0))], []), [(.ofNat 0, .ofNat 100000, 0, .ofNat 0)], [], [(some (0, 0, .negSucc 0), ([], []), [(.ofNat 0, .ofNat 100000, 0, .ofNat 0)])], [(false, (0, 0, .ofNat 0))])
/-- GridLawsModel.later, row 5 -/
def zc_l414 : zC := (287, 5, 1, [(3, 88, .ofNat 0), (0, 0, .ofNat 105)], ([(88, (0, 0, .ofNat 28), (1, 0, .ofNat 0)), (1049, (0, 0, .ofNat 105), (0, 0, .ofNat 0))], []), [(.ofNat 0, .ofNat 100000, 0, .ofNat 0)], [], [(some (0, 0, .negSucc 0), ([], []), [(.ofNat 0, .ofNat 100000, 0, .ofNat 0)])], [(false, (0, 0, .ofNat 0))])
/-- GridLawsModel.later, row 5 -/
def zc_l415 : zC := (287, 5, 1, [(3, 88, .ofNat 0), (0, 0, .ofNat 106)], ([(88, (0, 0, .ofNat 28), (1, 0, .ofNat 0)), (1049, (0, 0, .ofNat 106), (0, 0, .ofNat 0))], []), [(.ofNat 0, .ofNat 100000, 0, .ofNat 0)], [], [(some (0, 0, .negSucc 0), ([], []), [(.ofNat 0, .ofNat 100000, 0, .ofNat 0)])], [(false, (0, 0, .ofNat 0))])
/-- GridLawsModel.later, row 5 -/
def zc_l416 : zC := (287, 5, 1, [(3, 88, .ofNat 0), (0, 0, .ofNat 107)], ([(88, (0, 0, .ofNat 28), (1, 0, .ofNat 0)), (1049, (0, 0, .ofNat 107), (0, 0, .ofNat 0))], []), [(.ofNat 0, .ofNat 100000, 0, .ofNat 0)], [], [(some (0, 0, .negSucc 0), ([], []), [(.ofNat 0, .ofNat 100000, 0, .ofNat 0)])], [(false, (0, 0, .ofNat 0))])
/-- GridLawsModel.later, row 5 -/
def zc_l417 : zC := (287, 5, 1, [(3, 88, .ofNat 0), (0, 0, .ofNat 108)], ([(88, (0, 0, .ofNat 28), (1, 0, .ofNat 0)), (1049, (0, 0, .ofNat 108), (0, 0, .ofNat 0))], []), [(.ofNat 0, .ofNat 100000, 0, .ofNat 0)], [], [(some (0, 0, .negSucc 0), ([], []), [(.ofNat 0, .ofNat 100000, 0, .ofNat 0)])], [(false, (0, 0, .ofNat 0))])
/-- GridLawsModel.later, row 5 -/
def zc_l418 : zC := (287, 5, 1, [(3, 88, .ofNat 0), (0, 0, .ofNat 109)], ([(88, (0, 0, .ofNat 28), (1, 0, .ofNat 0)), (1049, (0, 0, .ofNat 109), (0, 0, .ofNat 0))], []), [(.ofNat 0, .ofNat 100000, 0, .ofNat 0)], [], [(some (0, 0, .negSucc 0), ([], []), [(.ofNat 0, .ofNat 100000, 0, .ofNat 0)])], [(false, (0, 0, .ofNat 0))])
/-- GridLawsModel.later, row 5 -/
def zc_l419 : zC := (287, 5, 1, [(3, 88, .ofNat 0), (0, 0, .ofNat 110)], ([(88, (0, 0, .ofNat 28), (1, 0, .ofNat 0)), (1049, (0, 0, .ofNat 110), (0, 0, .ofNat 0))], []), [(.ofNat 0, .ofNat 100000, 0, .ofNat 0)], [], [(some (0, 0, .negSucc 0), ([], []), [(.ofNat 0, .ofNat 100000, 0, .ofNat 0)])], [(false, (0, 0, .ofNat 0))])
/-- GridLawsModel.later, row 5 -/
def zc_l420 : zC := (287, 5, 1, [(3, 88, .ofNat 0), (0, 0, .ofNat 111)], ([(88, (0, 0, .ofNat 28), (1, 0, .ofNat 0)), (1049, (0, 0, .ofNat 111), (0, 0, .ofNat 0))], []), [(.ofNat 0, .ofNat 100000, 0, .ofNat 0)], [], [(some (0, 0, .negSucc 0), ([], []), [(.ofNat 0, .ofNat 100000, 0, .ofNat 0)])], [(false, (0, 0, .ofNat 0))])
/-- GridLawsModel.later, row 5 -/
def zc_l421 : zC := (287, 5, 1, [(3, 88, .ofNat 0), (0, 0, .ofNat 112)], ([(88, (0, 0, .ofNat 28), (1, 0, .ofNat 0)), (1049, (0, 0, .ofNat 112), (0, 0, .ofNat 0))], []), [(.ofNat 0, .ofNat 100000, 0, .ofNat 0)], [], [(some (0, 0, .negSucc 0), ([], []), [(.ofNat 0, .ofNat 100000, 0, .ofNat 0)])], [(false, (0, 0, .ofNat 0))])
/-- GridLawsModel.later, row 5 -/
def zc_l422 : zC := (287, 5, 1, [(3, 88, .ofNat 0), (0, 0, .ofNat 113)], ([(88, (0, 0, .ofNat 28), (1, 0, .ofNat 0)), (1049, (0, 0, .ofNat 113), (0, 0, .ofNat 0))], []), [(.ofNat 0, .ofNat 100000, 0, .ofNat 0)], [], [(some (0, 0, .negSucc 0), ([], []), [(.ofNat 0, .ofNat 100000, 0, .ofNat 0)])], [(false, (0, 0, .ofNat 0))])
/-- GridLawsModel.later, row 5 -/
def zc_l423 : zC := (287, 5, 1, [(3, 88, .ofNat 0), (0, 0, .ofNat 114)], ([(88, (0, 0, .ofNat 28), (1, 0, .ofNat 0)), (1049, (0, 0, .ofNat 114), (0, 0, .ofNat 0))], []), [(.ofNat 0, .ofNat 100000, 0, .ofNat 0)], [], [(some (0, 0, .negSucc 0), ([], []), [(.ofNat 0, .ofNat 100000, 0, .ofNat 0)])], [(false, (0, 0, .ofNat 0))])
/-- GridLawsModel.later, row 5 -/
def zc_l424 : zC := (287, 5, 1, [(3, 88, .ofNat 0), (0, 0, .ofNat 115)], ([(88, (0, 0, .ofNat 28), (1, 0, .ofNat 0)), (1049, (0, 0, .ofNat 115), (0, 0, .ofNat 0))], []), [(.ofNat 0, .ofNat 100000, 0, .ofNat 0)], [], [(some (0, 0, .negSucc 0), ([], []), [(.ofNat 0, .ofNat 100000, 0, .ofNat 0)])], [(false, (0, 0, .ofNat 0))])
/-- GridLawsModel.later, row 5 -/
def zc_l425 : zC := (287, 5, 1, [(3, 88, .ofNat 0), (0, 0, .ofNat 116)], ([(88, (0, 0, .ofNat 28), (1, 0, .ofNat 0)), (1049, (0, 0, .ofNat 116), (0, 0, .ofNat 0))], []), [(.ofNat 0, .ofNat 100000, 0, .ofNat 0)], [], [(some (0, 0, .negSucc 0), ([], []), [(.ofNat 0, .ofNat 100000, 0, .ofNat 0)])], [(false, (0, 0, .ofNat 0))])
/-- GridLawsModel.later, row 5 -/
def zc_l426 : zC := (287, 5, 1, [(3, 88, .ofNat 0), (0, 0, .ofNat 117)], ([(88, (0, 0, .ofNat 28), (1, 0, .ofNat 0)), (1049, (0, 0, .ofNat 117), (0, 0, .ofNat 0))], []), [(.ofNat 0, .ofNat 100000, 0, .ofNat 0)], [], [(some (0, 0, .negSucc 0), ([], []), [(.ofNat 0, .ofNat 100000, 0, .ofNat 0)])], [(false, (0, 0, .ofNat 0))])
/-- GridLawsModel.later, row 5 -/
def zc_l427 : zC := (287, 5, 1, [(3, 88, .ofNat 0), (0, 0, .ofNat 118)], ([(88, (0, 0, .ofNat 28), (1, 0, .ofNat 0)), (1049, (0, 0, .ofNat 118), (0, 0, .ofNat 0))], []), [(.ofNat 0, .ofNat 100000, 0, .ofNat 0)], [], [(some (0, 0, .negSucc 0), ([], []), [(.ofNat 0, .ofNat 100000, 0, .ofNat 0)])], [(false, (0, 0, .ofNat 0))])
/-- GridLawsModel.later, row 5 -/
def zc_l428 : zC := (287, 5, 1, [(3, 88, .ofNat 0), (0, 0, .ofNat 119)], ([(88, (0, 0, .ofNat 28), (1, 0, .ofNat 0)), (1049, (0, 0, .ofNat 119), (0, 0, .ofNat 0))], []), [(.ofNat 0, .ofNat 100000, 0, .ofNat 0)], [], [(some (0, 0, .negSucc 0), ([], []), [(.ofNat 0, .ofNat 100000, 0, .ofNat 0)])], [(false, (0, 0, .ofNat 0))])
/-- GridLawsModel.later, row 5 -/
def zc_l429 : zC := (287, 5, 1, [(3, 88, .ofNat 0), (0, 0, .ofNat 120)], ([(88, (0, 0, .ofNat 28), (1, 0, .ofNat 0)), (1049, (0, 0, .ofNat 120), (0, 0, .ofNat 0))], []), [(.ofNat 0, .ofNat 100000, 0, .ofNat 0)], [], [(some (0, 0, .negSucc 0), ([], []), [(.ofNat 0, .ofNat 100000, 0, .ofNat 0)])], [(false, (0, 0, .ofNat 0))])
/-- GridLawsModel.later, row 5 -/
def zc_l430 : zC := (287, 5, 1, [(3, 88, .ofNat 0), (0, 0, .ofNat 121)], ([(88, (0, 0, .ofNat 28), (1, 0, .ofNat 0)), (1049, (0, 0, .ofNat 121), (0, 0, .ofNat 0))], []), [(.ofNat 0, .ofNat 100000, 0, .ofNat 0)], [], [(some (0, 0, .negSucc 0), ([], []), [(.ofNat 0, .ofNat 100000, 0, .ofNat 0)])], [(false, (0, 0, .ofNat 0))])
/-- GridLawsModel.later, row 5 -/
def zc_l431 : zC := (287, 5, 1, [(3, 88, .ofNat 0), (0, 0, .ofNat 122)], ([(88, (0, 0, .ofNat 28), (1, 0, .ofNat 0)), (1049, (0, 0, .ofNat 122), (0, 0, .ofNat 0))], []), [(.ofNat 0, .ofNat 100000, 0, .ofNat 0)], [], [(some (0, 0, .negSucc 0), ([], []), [(.ofNat 0, .ofNat 100000, 0, .ofNat 0)])], [(false, (0, 0, .ofNat 0))])
/-- GridLawsModel.later, row 5 -/
def zc_l432 : zC := (287, 5, 1, [(3, 88, .ofNat 0), (0, 0, .ofNat 123)], ([(88, (0, 0, .ofNat 28), (1, 0, .ofNat 0)), (1049, (0, 0, .ofNat 123), (0, 0, .ofNat 0))], []), [(.ofNat 0, .ofNat 100000, 0, .ofNat 0)], [], [(some (0, 0, .negSucc 0), ([], []), [(.ofNat 0, .ofNat 100000, 0, .ofNat 0)])], [(false, (0, 0, .ofNat 0))])
/-- GridLawsModel.later, row 5 -/
def zc_l433 : zC := (287, 5, 1, [(3, 88, .ofNat 0), (0, 0, .ofNat 124)], ([(88, (0, 0, .ofNat 28), (1, 0, .ofNat 0)), (1049, (0, 0, .ofNat 124), (0, 0, .ofNat 0))], []), [(.ofNat 0, .ofNat 100000, 0, .ofNat 0)], [], [(some (0, 0, .negSucc 0), ([], []), [(.ofNat 0, .ofNat 100000, 0, .ofNat 0)])], [(false, (0, 0, .ofNat 0))])
/-- GridLawsModel.later, row 5 -/
def zc_l434 : zC := (287, 5, 1, [(3, 88, .ofNat 0), (0, 0, .ofNat 125)], ([(88, (0, 0, .ofNat 28), (1, 0, .ofNat 0)), (1049, (0, 0, .ofNat 125), (0, 0, .ofNat 0))], []), [(.ofNat 0, .ofNat 100000, 0, .ofNat 0)], [], [(some (0, 0, .negSucc 0), ([], []), [(.ofNat 0, .ofNat 100000, 0, .ofNat 0)])], [(false, (0, 0, .ofNat 0))])
/-- GridLawsModel.later, row 5 -/
def zc_l435 : zC := (287, 5, 1, [(3, 88, .ofNat 0), (0, 0, .ofNat 126)], ([(88, (0, 0, .ofNat 28), (1, 0, .ofNat 0)), (1049, (0, 0, .ofNat 126), (0, 0, .ofNat 0))], []), [(.ofNat 0, .ofNat 100000, 0, .ofNat 0)], [], [(some (0, 0, .negSucc 0), ([], []), [(.ofNat 0, .ofNat 100000, 0, .ofNat 0)])], [(false, (0, 0, .ofNat 0))])
/-- GridLawsModel.later, row 5 -/
def zc_l436 : zC := (287, 5, 1, [(3, 88, .ofNat 0), (0, 0, .ofNat 127)], ([(88, (0, 0, .ofNat 28), (1, 0, .ofNat 0)), (1049, (0, 0, .ofNat 127), (0, 0, .ofNat 0))], []), [(.ofNat 0, .ofNat 100000, 0, .ofNat 0)], [], [(some (0, 0, .negSucc 0), ([], []), [(.ofNat 0, .ofNat 100000, 0, .ofNat 0)])], [(false, (0, 0, .ofNat 0))])
/-- GridLawsModel.later, row 5 -/
def zc_l437 : zC := (287, 5, 1, [(3, 88, .ofNat 0), (0, 0, .ofNat 128)], ([(88, (0, 0, .ofNat 28), (1, 0, .ofNat 0)), (1049, (0, 0, .ofNat 128), (0, 0, .ofNat 0))], []), [(.ofNat 0, .ofNat 100000, 0, .ofNat 0)], [], [(some (0, 0, .negSucc 0), ([], []), [(.ofNat 0, .ofNat 100000, 0, .ofNat 0)])], [(false, (0, 0, .ofNat 0))])
/-- GridLawsModel.later, row 5 -/
def zc_l438 : zC := (287, 5, 1, [(3, 88, .ofNat 0), (0, 0, .ofNat 129)], ([(88, (0, 0, .ofNat 28), (1, 0, .ofNat 0)), (1049, (0, 0, .ofNat 129), (0, 0, .ofNat 0))], []), [(.ofNat 0, .ofNat 100000, 0, .ofNat 0)], [], [(some (0, 0, .negSucc 0), ([], []), [(.ofNat 0, .ofNat 100000, 0, .ofNat 0)])], [(false, (0, 0, .ofNat 0))])
/-- GridLawsModel.later, row 5 -/
def zc_l439 : zC := (287, 5, 1, [(3, 88, .ofNat 0), (0, 0, .ofNat 130)], ([(88, (0, 0, .ofNat 28), (1, 0, .ofNat 0)), (1049, (0, 0, .ofNat 130), (0, 0, .ofNat 0))], []), [(.ofNat 0, .ofNat 100000, 0, .ofNat 0)], [], [(some (0, 0, .negSucc 0), ([], []), [(.ofNat 0, .ofNat 100000, 0, .ofNat 0)])], [(false, (0, 0, .ofNat 0))])
/-- GridLawsModel.later, row 5 -/
def zc_l440 : zC := (287, 5, 1, [(3, 88, .ofNat 0), (0, 0, .ofNat 131)], ([(88, (0, 0, .ofNat 28), (1, 0, .ofNat 0)), (1049, (0, 0, .ofNat 131), (0, 0, .ofNat 0))], []), [(.ofNat 0, .ofNat 100000, 0, .ofNat 0)], [], [(some (0, 0, .negSucc 0), ([], []), [(.ofNat 0, .ofNat 100000, 0, .ofNat 0)])], [(false, (0, 0, .ofNat 0))])
/-- GridLawsModel.later, row 5 -/
def zc_l441 : zC := (287, 5, 1, [(3, 88, .ofNat 0), (0, 0, .ofNat 132)], ([(88, (0, 0, .ofNat 28), (1, 0, .ofNat 0)), (1049, (0, 0, .ofNat 132), (0, 0, .ofNat 0))], []), [(.ofNat 0, .ofNat 100000, 0, .ofNat 0)], [], [(some (0, 0, .negSucc 0), ([], []), [(.ofNat 0, .ofNat 100000, 0, .ofNat 0)])], [(false, (0, 0, .ofNat 0))])
/-- GridLawsModel.later, row 5 -/
def zc_l442 : zC := (287, 5, 1, [(3, 88, .ofNat 0), (0, 0, .ofNat 133)], ([(88, (0, 0, .ofNat 28), (1, 0, .ofNat 0)), (1049, (0, 0, .ofNat 133), (0, 0, .ofNat 0))], []), [(.ofNat 0, .ofNat 100000, 0, .ofNat 0)], [], [(some (0, 0, .negSucc 0), ([], []), [(.ofNat 0, .ofNat 100000, 0, .ofNat 0)])], [(false, (0, 0, .ofNat 0))])
/-- GridLawsModel.later, row 5 -/
def zc_l443 : zC := (287, 5, 1, [(3, 88, .ofNat 0), (0, 0, .ofNat 134)], ([(88, (0, 0, .ofNat 28), (1, 0, .ofNat 0)), (1049, (0, 0, .ofNat 134), (0, 0, .ofNat 0))], []), [(.ofNat 0, .ofNat 100000, 0, .ofNat 0)], [], [(some (0, 0, .negSucc 0), ([], []), [(.ofNat 0, .ofNat 100000, 0, .ofNat 0)])], [(false, (0, 0, .ofNat 0))])
/-- GridLawsModel.later, row 5 -/
def zc_l444 : zC := (287, 5, 1, [(3, 88, .ofNat 0), (0, 0, .ofNat 135)], ([(88, (0, 0, .ofNat 28), (1, 0, .ofNat 0)), (1049, (0, 0, .ofNat 135), (0, 0, .ofNat 0))], []), [(.ofNat 0, .ofNat 100000, 0, .ofNat 0)], [], [(some (0, 0, .negSucc 0), ([], []), [(.ofNat 0, .ofNat 100000, 0, .ofNat 0)])], [(false, (0, 0, .ofNat 0))])
/-- GridLawsModel.later, row 5 -/
def zc_l445 : zC := (287, 5, 1, [(3, 88, .ofNat 0), (0, 0, .ofNat 136)], ([(88, (0, 0, .ofNat 28), (1, 0, .ofNat 0)), (1049, (0, 0, .ofNat 136), (0, 0, .ofNat 0))], []), [(.ofNat 0, .ofNat 100000, 0, .ofNat 0)], [], [(some (0, 0, .negSucc 0), ([], []), [(.ofNat 0, .ofNat 100000, 0, .ofNat 0)])], [(false, (0, 0, .ofNat 0))])
/-- GridLawsModel.later, row 5 -/
def zc_l446 : zC := (287, 5, 1, [(3, 88, .ofNat 0), (0, 0, .ofNat 137)], ([(88, (0, 0, .ofNat 28), (1, 0, .ofNat 0)), (1049, (0, 0, .ofNat 137), (0, 0, .ofNat 0))], []), [(.ofNat 0, .ofNat 100000, 0, .ofNat 0)], [], [(some (0, 0, .negSucc 0), ([], []), [(.ofNat 0, .ofNat 100000, 0, .ofNat 0)])], [(false, (0, 0, .ofNat 0))])
/-- GridLawsModel.later, row 5 -/
def zc_l447 : zC := (287, 5, 1, [(3, 88, .ofNat 0), (0, 0, .ofNat 138)], ([(88, (0, 0, .ofNat 28), (1, 0, .ofNat 0)), (1049, (0, 0, .ofNat 138), (0, 0, .ofNat 0))], []), [(.ofNat 0, .ofNat 100000, 0, .ofNat 0)], [], [(some (0, 0, .negSucc 0), ([], []), [(.ofNat 0, .ofNat 100000, 0, .ofNat 0)])], [(false, (0, 0, .ofNat 0))])
/-- GridLawsModel.later, row 5 -/
def zc_l448 : zC := (287, 5, 1, [(3, 88, .ofNat 0), (0, 0, .ofNat 139)], ([(88, (0, 0, .ofNat 28), (1, 0, .ofNat 0)), (1049, (0, 0, .ofNat 139), (0, 0, .ofNat 0))], []), [(.ofNat 0, .ofNat 100000, 0, .ofNat 0)], [], [(some (0, 0, .negSucc 0), ([], []), [(.ofNat 0, .ofNat 100000, 0, .ofNat 0)])], [(false, (0, 0, .ofNat 0))])
/-- GridLawsModel.later, row 5 -/
def zc_l449 : zC := (287, 5, 1, [(3, 88, .ofNat 0), (0, 0, .ofNat 140)], ([(88, (0, 0, .ofNat 28), (1, 0, .ofNat 0)), (1049, (0, 0, .ofNat 140), (0, 0, .ofNat 0))], []), [(.ofNat 0, .ofNat 100000, 0, .ofNat 0)], [], [(some (0, 0, .negSucc 0), ([], []), [(.ofNat 0, .ofNat 100000, 0, .ofNat 0)])], [(false, (0, 0, .ofNat 0))])
/-- GridLawsModel.later, row 5 -/
def zc_l450 : zC := (287, 5, 1, [(3, 88, .ofNat 0), (0, 0, .ofNat 141)], ([(88, (0, 0, .ofNat 28), (1, 0, .ofNat 0)), (1049, (0, 0, .ofNat 141), (0, 0, .ofNat 0))], []), [(.ofNat 0, .ofNat 100000, 0, .ofNat 0)], [], [(some (0, 0, .negSucc 0), ([], []), [(.ofNat 0, .ofNat 100000, 0, .ofNat 0)])], [(false, (0, 0, .ofNat 0))])
/-- GridLawsModel.later, row 5 -/
def zc_l451 : zC := (287, 5, 1, [(3, 88, .ofNat 0), (0, 0, .ofNat 142)], ([(88, (0, 0, .ofNat 28), (1, 0, .ofNat 0)), (1049, (0, 0, .ofNat 142), (0, 0, .ofNat 0))], []), [(.ofNat 0, .ofNat 100000, 0, .ofNat 0)], [], [(some (0, 0, .negSucc 0), ([], []), [(.ofNat 0, .ofNat 100000, 0, .ofNat 0)])], [(false, (0, 0, .ofNat 0))])
/-- GridLawsModel.later, row 5 -/
def zc_l452 : zC := (287, 5, 1, [(3, 88, .ofNat 0), (0, 0, .ofNat 143)], ([(88, (0, 0, .ofNat 28), (1, 0, .ofNat 0)), (1049, (0, 0, .ofNat 143), (0, 0, .ofNat 0))], []), [(.ofNat 0, .ofNat 100000, 0, .ofNat 0)], [], [(some (0, 0, .negSucc 0), ([], []), [(.ofNat 0, .ofNat 100000, 0, .ofNat 0)])], [(false, (0, 0, .ofNat 0))])
/-- GridLawsModel.later, row 5 -/
def zc_l453 : zC := (287, 5, 1, [(3, 88, .ofNat 0), (0, 0, .ofNat 144)], ([(88, (0, 0, .ofNat 28), (1, 0, .ofNat 0)), (1049, (0, 0, .ofNat 144), (0, 0, .ofNat 0))], []), [(.ofNat 0, .ofNat 100000, 0, .ofNat 0)], [], [(some (0, 0, .negSucc 0), ([], []), [(.ofNat 0, .ofNat 100000, 0, .ofNat 0)])], [(false, (0, 0, .ofNat 0))])
/-- GridLawsModel.later, row 5 -/
def zc_l454 : zC := (287, 5, 1, [(3, 88, .ofNat 0), (0, 0, .ofNat 145)], ([(88, (0, 0, .ofNat 28), (1, 0, .ofNat 0)), (1049, (0, 0, .ofNat 145), (0, 0, .ofNat 0))], []), [(.ofNat 0, .ofNat 100000, 0, .ofNat 0)], [], [(some (0, 0, .negSucc 0), ([], []), [(.ofNat 0, .ofNat 100000, 0, .ofNat 0)])], [(false, (0, 0, .ofNat 0))])
/-- GridLawsModel.later, row 5 -/
def zc_l455 : zC := (287, 5, 1, [(3, 88, .ofNat 0), (0, 0, .ofNat 146)], ([(88, (0, 0, .ofNat 28), (1, 0, .ofNat 0)), (1049, (0, 0, .ofNat 146), (0, 0, .ofNat 0))], []), [(.ofNat 0, .ofNat 100000, 0, .ofNat 0)], [], [(some (0, 0, .negSucc 0), ([], []), [(.ofNat 0, .ofNat 100000, 0, .ofNat 0)])], [(false, (0, 0, .ofNat 0))])
/-- GridLawsModel.later, row 5 -/
def zc_l456 : zC := (287, 5, 1, [(3, 88, .ofNat 0), (0, 0, .ofNat 147)], ([(88, (0, 0, .ofNat 28), (1, 0, .ofNat 0)), (1049, (0, 0, .ofNat 147), (0, 0, .ofNat 0))], []), [(.ofNat 0, .ofNat 100000, 0, .ofNat 0)], [], [(some (0, 0, .negSucc 0), ([], []), [(.ofNat 0, .ofNat 100000, 0, .ofNat 0)])], [(false, (0, 0, .ofNat 0))])
/-- GridLawsModel.later, row 5 -/
def zc_l457 : zC := (287, 5, 1, [(3, 88, .ofNat 0), (0, 0, .ofNat 148)], ([(88, (0, 0, .ofNat 28), (1, 0, .ofNat 0)), (1049, (0, 0, .ofNat 148), (0, 0, .ofNat 0))], []), [(.ofNat 0, .ofNat 100000, 0, .ofNat 0)], [], [(some (0, 0, .negSucc 0), ([], []), [(.ofNat 0, .ofNat 100000, 0, .ofNat 0)])], [(false, (0, 0, .ofNat 0))])
/-- GridLawsModel.later, row 5 -/
def zc_l458 : zC := (287, 5, 1, [(3, 88, .ofNat 0), (0, 0, .ofNat 149)], ([(88, (0, 0, .ofNat 28), (1, 0, .ofNat 0)), (1049, (0, 0, .ofNat 149), (0, 0, .ofNat 0))], []), [(.ofNat 0, .ofNat 100000, 0, .ofNat 0)], [], [(some (0, 0, .negSucc 0), ([], []), [(.ofNat 0, .ofNat 100000, 0, .ofNat 0)])], [(false, (0, 0, .ofNat 0))])
/-- GridLawsModel.later, row 5 -/
def zc_l459 : zC := (287, 5, 1, [(3, 88, .ofNat 0), (0, 0, .ofNat 150)], ([(88, (0, 0, .ofNat 28), (1, 0, .ofNat 0)), (1049, (0, 0, .ofNat 150), (0, 0, .ofNat 0))], []), [(.ofNat 0, .ofNat 100000, 0, .ofNat 0)], [], [(some (0, 0, .negSucc 0), ([], []), [(.ofNat 0, .ofNat 100000, 0, .ofNat 0)])], [(false, (0, 0, .ofNat 0))])
/-- GridLawsModel.later, row 5 -/
def zc_l460 : zC := (287, 5, 1, [(3, 88, .ofNat 0), (0, 0, .ofNat 151)], ([(88, (0, 0, .ofNat 28), (1, 0, .ofNat 0)), (1049, (0, 0, .ofNat 151), (0, 0, .ofNat 0))], []), [(.ofNat 0, .ofNat 100000, 0, .ofNat 0)], [], [(some (0, 0, .negSucc 0), ([], []), [(.ofNat 0, .ofNat 100000, 0, .ofNat 0)])], [(false, (0, 0, .ofNat 0))])
/-- GridLawsModel.later, row 5 -/
def zc_l461 : zC := (287, 5, 1, [(3, 88, .ofNat 0), (0, 0, .ofNat 152)], ([(88, (0, 0, .ofNat 28), (1, 0, .ofNat 0)), (1049, (0, 0, .ofNat 152), (0, 0, .ofNat 0))], []), [(.ofNat 0, .ofNat 100000, 0, .ofNat 0)], [], [(some (0, 0, .negSucc 0), ([], []), [(.ofNat 0, .ofNat 100000, 0, .ofNat 0)])], [(false, (0, 0, .ofNat 0))])
/-- GridLawsModel.later, row 5 -/
def zc_l462 : zC := (287, 5, 1, [(3, 88, .ofNat 0), (0, 0, .ofNat 153)], ([(88, (0, 0, .ofNat 28), (1, 0, .ofNat 0)), (1049, (0, 0, .ofNat 153), (0, 0, .ofNat 0))], []), [(.ofNat 0, .ofNat 100000, 0, .ofNat 0)], [], [(some (0, 0, .negSucc 0), ([], []), [(.ofNat 0, .ofNat 100000, 0, .ofNat 0)])], [(false, (0, 0, .ofNat 0))])
/-- GridLawsModel.later, row 5 -/
def zc_l463 : zC := (287, 5, 1, [(3, 88, .ofNat 0), (0, 0, .ofNat 154)], ([(88, (0, 0, .ofNat 28), (1, 0, .ofNat 0)), (1049, (0, 0, .ofNat 154), (0, 0, .ofNat 0))], []), [(.ofNat 0, .ofNat 100000, 0, .ofNat 0)], [], [(some (0, 0, .negSucc 0), ([], []), [(.ofNat 0, .ofNat 100000, 0, .ofNat 0)])], [(false, (0, 0, .ofNat 0))])
/-- GridLawsModel.later, row 5 -/
def zc_l464 : zC := (287, 5, 1, [(3, 88, .ofNat 0), (0, 0, .ofNat 155)], ([(88, (0, 0, .ofNat 28), (1, 0, .ofNat 0)), (1049, (0, 0, .ofNat 155), (0, 0, .ofNat 0))], []), [(.ofNat 0, .ofNat 100000, 0, .ofNat 0)], [], [(some (0, 0, .negSucc 0), ([], []), [(.ofNat 0, .ofNat 100000, 0, .ofNat 0)])], [(false, (0, 0, .ofNat 0))])
/-- GridLawsModel.later, row 5 -/
def zc_l465 : zC := (287, 5, 1, [(3, 88, .ofNat 0), (0, 0, .ofNat 156)], ([(88, (0, 0, .ofNat 28), (1, 0, .ofNat 0)), (1049, (0, 0, .ofNat 156), (0, 0, .ofNat 0))], []), [(.ofNat 0, .ofNat 100000, 0, .ofNat 0)], [], [(some (0, 0, .negSucc 0), ([], []), [(.ofNat 0, .ofNat 100000, 0, .ofNat 0)])], [(false, (0, 0, .ofNat 0))])
/-- GridLawsModel.later, row 5 -/
def zc_l466 : zC := (287, 5, 1, [(3, 88, .ofNat 0), (0, 0, .ofNat 157)], ([(88, (0, 0, .ofNat 28), (1, 0, .ofNat 0)), (1049, (0, 0, .ofNat 157), (0, 0, .ofNat 0))], []), [(.ofNat 0, .ofNat 100000, 0, .ofNat 0)], [], [(some (0, 0, .negSucc 0), ([], []), [(.ofNat 0, .ofNat 100000, 0, .ofNat 0)])], [(false, (0, 0, .ofNat 0))])
/-- GridLawsModel.later, row 5 -/
def zc_l467 : zC := (287, 5, 1, [(3, 88, .ofNat 0), (0, 0, .ofNat 158)], ([(88, (0, 0, .ofNat 28), (1, 0, .ofNat 0)), (1049, (0, 0, .ofNat 158), (0, 0, .ofNat 0))], []), [(.ofNat 0, .ofNat 100000, 0, .ofNat 0)], [], [(some (0, 0, .negSucc 0), ([], []), [(.ofNat 0, .ofNat 100000, 0, .ofNat 0)])], [(false, (0, 0, .ofNat 0))])
/-- GridLawsModel.later, row 5 -/
def zc_l468 : zC := (287, 5, 1, [(3, 88, .ofNat 0), (0, 0, .ofNat 159)], ([(88, (0, 0, .ofNat 28), (1, 0, .ofNat 0)), (1049, (0, 0, .ofNat 159), (0, 0, .ofNat 0))], []), [(.ofNat 0, .ofNat 100000, 0, .ofNat 0)], [], [(some (0, 0, .negSucc 0), ([], []), [(.ofNat 0, .ofNat 100000, 0, .ofNat 0)])], [(false, (0, 0, .ofNat 0))])
/-- GridLawsModel.later, row 5 -/
def zc_l469 : zC := (287, 5, 1, [(3, 88, .ofNat 0), (0, 0, .ofNat 160)], ([(88, (0, 0, .ofNat 28), (1, 0, .ofNat 0)), (1049, (0, 0, .ofNat 160), (0, 0, .ofNat 0))], []), [(.ofNat 0, .ofNat 100000, 0, .ofNat 0)], [], [(some (0, 0, .negSucc 0), ([], []), [(.ofNat 0, .ofNat 100000, 0, .ofNat 0)])], [(false, (0, 0, .ofNat 0))])
/-- GridLawsModel.later, row 5 -/
def zc_l470 : zC := (287, 5, 1, [(3, 88, .ofNat 0), (0, 0, .ofNat 161)], ([(88, (0, 0, .ofNat 28), (1, 0, .ofNat 0)), (1049, (0, 0, .ofNat 161), (0, 0, .ofNat 0))], []), [(.ofNat 0, .ofNat 100000, 0, .ofNat 0)], [], [(some (0, 0, .negSucc 0), ([], []), [(.ofNat 0, .ofNat 100000, 0, .ofNat 0)])], [(false, (0, 0, .ofNat 0))])
/-- GridLawsModel.later, row 5 -/
def zc_l471 : zC := (287, 5, 1, [(3, 88, .ofNat 0), (0, 0, .ofNat 162)], ([(88, (0, 0, .ofNat 28), (1, 0, .ofNat 0)), (1049, (0, 0, .ofNat 162), (0, 0, .ofNat 0))], []), [(.ofNat 0, .ofNat 100000, 0, .ofNat 0)], [], [(some (0, 0, .negSucc 0), ([], []), [(.ofNat 0, .ofNat 100000, 0, .ofNat 0)])], [(false, (0, 0, .ofNat 0))])
/-- GridLawsModel.later, row 5 -/
def zc_l472 : zC := (287, 5, 1, [(3, 88, .ofNat 0), (0, 0, .ofNat 163)], ([(88, (0, 0, .ofNat 28), (1, 0, .ofNat 0)), (1049, (0, 0, .ofNat 163), (0, 0, .ofNat 0))], []), [(.ofNat 0, .ofNat 100000, 0, .ofNat 0)], [], [(some (0, 0, .negSucc 0), ([], []), [(.ofNat 0, .ofNat 100000, 0, .ofNat 0)])], [(false, (0, 0, .ofNat 0))])
/-- GridLawsModel.later, row 5 -/
def zc_l473 : zC := (287, 5, 1, [(3, 88, .ofNat 0), (0, 0, .ofNat 164)], ([(88, (0, 0, .ofNat 28), (1, 0, .ofNat 0)), (1049, (0, 0, .ofNat 164), (0, 0, .ofNat 0))], []), [(.ofNat 0, .ofNat 100000, 0, .ofNat 0)], [], [(some (0, 0, .negSucc 0), ([], []), [(.ofNat 0, .ofNat 100000, 0, .ofNat 0)])], [(false, (0, 0, .ofNat 0))])
/-- GridLawsModel.later, row 5 -/
def zc_l474 : zC := (287, 5, 1, [(3, 88, .ofNat 0), (0, 0, .ofNat 165)], ([(88, (0, 0, .ofNat 28), (1, 0, .ofNat 0)), (1049, (0, 0, .ofNat 165), (0, 0, .ofNat 0))], []), [(.ofNat 0, .ofNat 100000, 0, .ofNat 0)], [], [(some (0, 0, .negSucc 0), ([], []), [(.ofNat 0, .ofNat 100000, 0, .ofNat 0)])], [(false, (0, 0, .ofNat 0))])
/-- GridLawsModel.later, row 5 -/
def zc_l475 : zC := (287, 5, 1, [(3, 88, .ofNat 0), (0, 0, .ofNat 166)], ([(88, (0, 0, .ofNat 28), (1, 0, .ofNat 0)), (1049, (0, 0, .ofNat 166), (0, 0, .ofNat 0))], []), [(.ofNat 0, .ofNat 100000, 0, .ofNat 0)], [], [(some (0, 0, .negSucc 0), ([], []), [(.ofNat 0, .ofNat 100000, 0, .ofNat 0)])], [(false, (0, 0, .ofNat 0))])
/-- GridLawsModel.later, row 5 -/
def zc_l476 : zC := (287, 5, 1, [(3, 88, .ofNat 0), (0, 0, .ofNat 167)], ([(88, (0, 0, .ofNat 28), (1, 0, .ofNat 0)), (1049, (0, 0, .ofNat 167), (0, 0, .ofNat 0))], []), [(.ofNat 0, .ofNat 100000, 0, .ofNat 0)], [], [(some (0, 0, .negSucc 0), ([], []), [(.ofNat 0, .ofNat 100000, 0, .ofNat 0)])], [(false, (0, 0, .ofNat 0))])
/-- GridLawsModel.later, row 5 -/
def zc_l477 : zC := (287, 5, 1, [(3, 88, .ofNat 0), (0, 0, .ofNat 168)], ([(88, (0, 0, .ofNat 28), (1, 0, .ofNat 0)), (1049, (0, 0, .ofNat 168), (0, 0, .ofNat 0))], []), [(.ofNat 0, .ofNat 100000, 0, .ofNat 0)], [], [(some (0, 0, .negSucc 0), ([], []), [(.ofNat 0, .ofNat 100000, 0, .ofNat 0)])], [(false, (0, 0, .ofNat 0))])
/-- GridLawsModel.later, row 5 -/
def zc_l478 : zC := (287, 5, 1, [(3, 88, .ofNat 0), (0, 0, .ofNat 169)], ([(88, (0, 0, .ofNat 28), (1, 0, .ofNat 0)), (1049, (0, 0, .ofNat 169), (0, 0, .ofNat 0))], []), [(.ofNat 0, .ofNat 100000, 0, .ofNat 0)], [], [(some (0, 0, .negSucc 0), ([], []), [(.ofNat 0, .ofNat 100000, 0, .ofNat 0)])], [(false, (0, 0, .ofNat 0))])
/-- GridLawsModel.later, row 5 -/
def zc_l479 : zC := (287, 5, 1, [(3, 88, .ofNat 0), (0, 0, .ofNat 170)], ([(88, (0, 0, .ofNat 28), (1, 0, .ofNat 0)), (1049, (0, 0, .ofNat 170), (0, 0, .ofNat 0))], []), [(.ofNat 0, .ofNat 100000, 0, .ofNat 0)], [], [(some (0, 0, .negSucc 0), ([], []), [(.ofNat 0, .ofNat 100000, 0, .ofNat 0)])], [(false, (0, 0, .ofNat 0))])
/-- GridLawsModel.later, row 5 -/
def zc_l480 : zC := (287, 5, 1, [(3, 88, .ofNat 0), (0, 0, .ofNat 171)], ([(88, (0, 0, .ofNat 28), (1, 0, .ofNat 0)), (1049, (0, 0, .ofNat 171), (0, 0, .ofNat 0))], []), [(.ofNat 0, .ofNat 100000, 0, .ofNat 0)], [], [(some (0, 0, .negSucc 0), ([], []), [(.ofNat 0, .ofNat 100000, 0, .ofNat 0)])], [(false, (0, 0, .ofNat 0))])
/-- GridLawsModel.later, row 5 -/
def zc_l481 : zC := (287, 5, 1, [(3, 88, .ofNat 0), (0, 0, .ofNat 172)], ([(88, (0, 0, .ofNat 28), (1, 0, .ofNat 0)), (1049, (0, 0, .ofNat 172), (0, 0, .ofNat 0))], []), [(.ofNat 0, .ofNat 100000, 0, .ofNat 0)], [], [(some (0, 0, .negSucc 0), ([], []), [(.ofNat 0, .ofNat 100000, 0, .ofNat 0)])], [(false, (0, 0, .ofNat 0))])
/-- GridLawsModel.later, row 5 -/
def zc_l482 : zC := (287, 5, 1, [(3, 88, .ofNat 0), (0, 0, .ofNat 173)], ([(88, (0, 0, .ofNat 28), (1, 0, .ofNat 0)), (1049, (0, 0, .ofNat 173), (0, 0, .ofNat 0))], []), [(.ofNat 0, .ofNat 100000, 0, .ofNat 0)], [], [(some (0, 0, .negSucc 0), ([], []), [(.ofNat 0, .ofNat 100000, 0, .ofNat 0)])], [(false, (0, 0, .ofNat 0))])
/-- GridLawsModel.later, row 5 -/
def zc_l483 : zC := (287, 5, 1, [(3, 88, .ofNat 0), (0, 0, .ofNat 174)], ([(88, (0, 0, .ofNat 28), (1, 0, .ofNat 0)), (1049, (0, 0, .ofNat 174), (0, 0, .ofNat 0))], []), [(.ofNat 0, .ofNat 100000, 0, .ofNat 0)], [], [(some (0, 0, .negSucc 0), ([], []), [(.ofNat 0, .ofNat 100000, 0, .ofNat 0)])], [(false, (0, 0, .ofNat 0))])
/-- GridLawsModel.later, row 5 -/
def zc_l484 : zC := (287, 5, 1, [(3, 88, .ofNat 0), (0, 0, .ofNat 175)], ([(88, (0, 0, .ofNat 28), (1, 0, .ofNat 0)), (1049, (0, 0, .ofNat 175), (0, 0, .ofNat 0))], []), [(.ofNat 0, .ofNat 100000, 0, .ofNat 0)], [], [(some (0, 0, .negSucc 0), ([], []), [(.ofNat 0, .ofNat 100000, 0, .ofNat 0)])], [(false, (0, 0, .ofNat 0))])
/-- GridLawsModel.later, row 5 -/
def zc_l485 : zC := (287, 5, 1, [(3, 88, .ofNat 0), (0, 0, .ofNat 176)], ([(88, (0, 0, .ofNat 28), (1, 0, .ofNat 0)), (1049, (0, 0, .ofNat 176), (0, 0, .ofNat 0))], []), [(.ofNat 0, .ofNat 100000, 0, .ofNat 0)], [], [(some (0, 0, .negSucc 0), ([], []), [(.ofNat 0, .ofNat 100000, 0, .ofNat 0)])], [(false, (0, 0, .ofNat 0))])
/-- GridLawsModel.later, row 5 -/
def zc_l486 : zC := (287, 5, 1, [(3, 88, .ofNat 0), (0, 0, .ofNat 177)], ([(88, (0, 0, .ofNat 28), (1, 0, .ofNat 0)), (1049, (0, 0, .ofNat 177), (0, 0, .ofNat 0))], []), [(.ofNat 0, .ofNat 100000, 0, .ofNat 0)], [], [(some (0, 0, .negSucc 0), ([], []), [(.ofNat 0, .ofNat 100000, 0, .ofNat 0)])], [(false, (0, 0, .ofNat 0))])
/-- GridLawsModel.later, row 5 -/
def zc_l487 : zC := (287, 5, 1, [(3, 88, .ofNat 0), (0, 0, .ofNat 178)], ([(88, (0, 0, .ofNat 28), (1, 0, .ofNat 0)), (1049, (0, 0, .ofNat 178), (0, 0, .ofNat 0))], []), [(.ofNat 0, .ofNat 100000, 0, .ofNat 0)], [], [(some (0, 0, .negSucc 0), ([], []), [(.ofNat 0, .ofNat 100000, 0, .ofNat 0)])], [(false, (0, 0, .ofNat 0))])
/-- GridLawsModel.later, row 5 -/
def zc_l488 : zC := (287, 5, 1, [(3, 88, .ofNat 0), (0, 0, .ofNat 179)], ([(88, (0, 0, .ofNat 28), (1, 0, .ofNat 0)), (1049, (0, 0, .ofNat 179), (0, 0, .ofNat 0))], []), [(.ofNat 0, .ofNat 100000, 0, .ofNat 0)], [], [(some (0, 0, .negSucc 0), ([], []), [(.ofNat 0, .ofNat 100000, 0, .ofNat 0)])], [(false, (0, 0, .ofNat 0))])
/-- GridLawsModel.later, row 5 -/
def zc_l489 : zC := (287, 5, 1, [(3, 88, .ofNat 0), (0, 0, .ofNat 180)], ([(88, (0, 0, .ofNat 28), (1, 0, .ofNat 0)), (1049, (0, 0, .ofNat 180), (0, 0, .ofNat 0))], []), [(.ofNat 0, .ofNat 100000, 0, .ofNat 0)], [], [(some (0, 0, .negSucc 0), ([], []), [(.ofNat 0, .ofNat 100000, 0, .ofNat 0)])], [(false, (0, 0, .ofNat 0))])
/-- GridLawsModel.later, row 5 -/
def zc_l490 : zC := (287, 5, 1, [(3, 88, .ofNat 0), (0, 0, .ofNat 181)], ([(88, (0, 0, .ofNat 28), (1, 0, .ofNat 0)), (1049, (0, 0, .ofNat 181), (0, 0, .ofNat 0))], []), [(.ofNat 0, .ofNat 100000, 0, .ofNat 0)], [], [(some (0, 0, .negSucc 0), ([], []), [(.ofNat 0, .ofNat 100000, 0, .ofNat 0)])], [(false, (0, 0, .ofNat 0))])
/-- GridLawsModel.later, row 5 -/
def zc_l491 : zC := (287, 5, 1, [(3, 88, .ofNat 0), (0, 0, .ofNat 182)], ([(88, (0, 0, .ofNat 28), (1, 0, .ofNat 0)), (1049, (0, 0, .ofNat 182), (0, 0, .ofNat 0))], []), [(.ofNat 0, .ofNat 100000, 0, .ofNat 0)], [], [(some (0, 0, .negSucc 0), ([], []), [(.ofNat 0, .ofNat 100000, 0, .ofNat 0)])], [(false, (0, 0, .ofNat 0))])
/-- GridLawsModel.later, row 5 -/
def zc_l492 : zC := (287, 5, 1, [(3, 88, .ofNat 0), (0, 0, .ofNat 183)], ([(88, (0, 0, .ofNat 28), (1, 0, .ofNat 0)), (1049, (0, 0, .ofNat 183), (0, 0, .ofNat 0))], []), [(.ofNat 0, .ofNat 100000, 0, .ofNat 0)], [], [(some (0, 0, .negSucc 0), ([], []), [(.ofNat 0, .ofNat 100000, 0, .ofNat 0)])], [(false, (0, 0, .ofNat 0))])
/-- GridLawsModel.later, row 5 -/
def zc_l493 : zC := (287, 5, 1, [(3, 88, .ofNat 0), (0, 0, .ofNat 184)], ([(88, (0, 0, .ofNat 28), (1, 0, .ofNat 0)), (1049, (0, 0, .ofNat 184), (0, 0, .ofNat 0))], []), [(.ofNat 0, .ofNat 100000, 0, .ofNat 0)], [], [(some (0, 0, .negSucc 0), ([], []), [(.ofNat 0, .ofNat 100000, 0, .ofNat 0)])], [(false, (0, 0, .ofNat 0))])
/-- GridLawsModel.later, row 5 -/
def zc_l494 : zC := (287, 5, 1, [(3, 88, .ofNat 0), (0, 0, .ofNat 185)], ([(88, (0, 0, .ofNat 28), (1, 0, .ofNat 0)), (1049, (0, 0, .ofNat 185), (0, 0, .ofNat 0))], []), [(.ofNat 0, .ofNat 100000, 0, .ofNat 0)], [], [(some (0, 0, .negSucc 0), ([], []), [(.ofNat 0, .ofNat 100000, 0, .ofNat 0)])], [(false, (0, 0, .ofNat 0))])
/-- GridLawsModel.later, row 5 -/
def zc_l495 : zC := (287, 5, 1, [(3, 88, .ofNat 0), (0, 0, .ofNat 186)], ([(88, (0, 0, .ofNat 28), (1, 0, .ofNat 0)), (1049, (0, 0, .ofNat 186), (0, 0, .ofNat 0))], []), [(.ofNat 0, .ofNat 100000, 0, .ofNat 0)], [], [(some (0, 0, .negSucc 0), ([], []), [(.ofNat 0, .ofNat 100000, 0, .ofNat 0)])], [(false, (0, 0, .ofNat 0))])
/-- GridLawsModel.later, row 5 -/
def zc_l496 : zC := (287, 5, 1, [(3, 88, .ofNat 0), (0, 0, .ofNat 187)], ([(88, (0, 0, .ofNat 28), (1, 0, .ofNat 0)), (1049, (0, 0, .ofNat 187), (0, 0, .ofNat 0))], []), [(.ofNat 0, .ofNat 100000, 0, .ofNat 0)], [], [(some (0, 0, .negSucc 0), ([], []), [(.ofNat 0, .ofNat 100000, 0, .ofNat 0)])], [(false, (0, 0, .ofNat 0))])
/-- GridLawsModel.later, row 5 -/
def zc_l497 : zC := (287, 5, 1, [(3, 88, .ofNat 0), (0, 0, .ofNat 188)], ([(88, (0, 0, .ofNat 28), (1, 0, .ofNat 0)), (1049, (0, 0, .ofNat 188), (0, 0, .ofNat 0))], []), [(.ofNat 0, .ofNat 100000, 0, .ofNat 0)], [], [(some (0, 0, .negSucc 0), ([], []), [(.ofNat 0, .ofNat 100000, 0, .ofNat 0)])], [(false, (0, 0, .ofNat 0))])
/-- GridLawsModel.later, row 5 -/
def zc_l498 : zC := (287, 5, 1, [(3, 88, .ofNat 0), (0, 0, .ofNat 189)], ([(88, (0, 0, .ofNat 28), (1, 0, .ofNat 0)), (1049, (0, 0, .ofNat 189), (0, 0, .ofNat 0))], []), [(.ofNat 0, .ofNat 100000, 0, .ofNat 0)], [], [(some (0, 0, .negSucc 0), ([], []), [(.ofNat 0, .ofNat 100000, 0, .ofNat 0)])], [(false, (0, 0, .ofNat 0))])
/-- GridLawsModel.later, row 5 -/
def zc_l499 : zC := (287, 5, 1, [(3, 88, .ofNat 0), (0, 0, .ofNat 190)], ([(88, (0, 0, .ofNat 28), (1, 0, .ofNat 0)), (1049, (0, 0, .ofNat 190), (0, 0, .ofNat 0))], []), [(.ofNat 0, .ofNat 100000, 0, .ofNat 0)], [], [(some (0, 0, .negSucc 0), ([], []), [(.ofNat 0, .ofNat 100000, 0, .ofNat 0)])], [(false, (0, 0, .ofNat 0))])
/-- GridLawsModel.later, row 5 -/
def zc_l500 : zC := (287, 5, 1, [(3, 88, .ofNat 0), (0, 0, .ofNat 191)], ([(88, (0, 0, .ofNat 28), (1, 0, .ofNat 0)), (1049, (0, 0, .ofNat 191), (0, 0, .ofNat 0))], []), [(.ofNat 0, .ofNat 100000, 0, .ofNat 0)], [], [(some (0, 0, .negSucc 0), ([], []), [(.ofNat 0, .ofNat 100000, 0, .ofNat 0)])], [(false, (0, 0, .ofNat 0))])
/-- GridLawsModel.later, row 5 -/
def zc_l501 : zC := (287, 5, 1, [(3, 88, .ofNat 0), (0, 0, .ofNat 192)], ([(88, (0, 0, .ofNat 28), (1, 0, .ofNat 0)), (1049, (0, 0, .ofNat 192), (0, 0, .ofNat 0))], []), [(.ofNat 0, .ofNat 100000, 0, .ofNat 0)], [], [(some (0, 0, .negSucc 0), ([], []), [(.ofNat 0, .ofNat 100000, 0, .ofNat 0)])], [(false, (0, 0, .ofNat 0))])
/-- GridLawsModel.later, row 5 -/
def zc_l502 : zC := (287, 5, 1, [(3, 88, .ofNat 0), (0, 0, .ofNat 193)], ([(88, (0, 0, .ofNat 28), (1, 0, .ofNat 0)), (1049, (0, 0, .ofNat 193), (0, 0, .ofNat 0))], []), [(.ofNat 0, .ofNat 100000, 0, .ofNat 0)], [], [(some (0, 0, .negSucc 0), ([], []), [(.ofNat 0, .ofNat 100000, 0, .ofNat 0)])], [(false, (0, 0, .ofNat 0))])
/-- GridLawsModel.later, row 5 -/
def zc_l503 : zC := (287, 5, 1, [(3, 88, .ofNat 0), (0, 0, .ofNat 194)], ([(88, (0, 0, .ofNat 28), (1, 0, .ofNat 0)), (1049, (0, 0, .ofNat 194), (0, 0, .ofNat 0))], []), [(.ofNat 0, .ofNat 100000, 0, .ofNat 0)], [], [(some (0, 0, .negSucc 0), ([], []), [(.ofNat 0, .ofNat 100000, 0, .ofNat 0)])], [(false, (0, 0, .ofNat 0))])
/-- GridLawsModel.later, row 5 -/
def zc_l504 : zC := (287, 5, 1, [(3, 88, .ofNat 0), (0, 0, .ofNat 195)], ([(88, (0, 0, .ofNat 28), (1, 0, .ofNat 0)), (1049, (0, 0, .ofNat 195), (0, 0, .ofNat 0))], []), [(.ofNat 0, .ofNat 100000, 0, .ofNat 0)], [], [(some (0, 0, .negSucc 0), ([], []), [(.ofNat 0, .ofNat 100000, 0, .ofNat 0)])], [(false, (0, 0, .ofNat 0))])
/-- GridLawsModel.later, row 5 -/
def zc_l505 : zC := (287, 5, 1, [(3, 88, .ofNat 0), (0, 0, .ofNat 196)], ([(88, (0, 0, .ofNat 28), (1, 0, .ofNat 0)), (1049, (0, 0, .ofNat 196), (0, 0, .ofNat 0))], []), [(.ofNat 0, .ofNat 100000, 0, .ofNat 0)], [], [(some (0, 0, .negSucc 0), ([], []), [(.ofNat 0, .ofNat 100000, 0, .ofNat 0)])], [(false, (0, 0, .ofNat 0))])
/-- GridLawsModel.later, row 5 -/
def zc_l506 : zC := (287, 5, 1, [(3, 88, .ofNat 0), (0, 0, .ofNat 197)], ([(88, (0, 0, .ofNat 28), (1, 0, .ofNat 0)), (1049, (0, 0, .ofNat 197), (0, 0, .ofNat 0))], []), [(.ofNat 0, .ofNat 100000, 0, .ofNat 0)], [], [(some (0, 0, .negSucc 0), ([], []), [(.ofNat 0, .ofNat 100000, 0, .ofNat 0)])], [(false, (0, 0, .ofNat 0))])
/-- GridLawsModel.later, row 5 -/
def zc_l507 : zC := (287, 5, 1, [(3, 88, .ofNat 0), (0, 0, .ofNat 198)], ([(88, (0, 0, .ofNat 28), (1, 0, .ofNat 0)), (1049, (0, 0, .ofNat 198), (0, 0, .ofNat 0))], []), [(.ofNat 0, .ofNat 100000, 0, .ofNat 0)], [], [(some (0, 0, .negSucc 0), ([], []), [(.ofNat 0, .ofNat 100000, 0, .ofNat 0)])], [(false, (0, 0, .ofNat 0))])
/-- GridLawsModel.later, row 5 -/
def zc_l508 : zC := (287, 5, 1, [(3, 88, .ofNat 0), (0, 0, .ofNat 199)], ([(88, (0, 0, .ofNat 28), (1, 0, .ofNat 0)), (1049, (0, 0, .ofNat 199), (0, 0, .ofNat 0))], []), [(.ofNat 0, .ofNat 100000, 0, .ofNat 0)], [], [(some (0, 0, .negSucc 0), ([], []), [(.ofNat 0, .ofNat 100000, 0, .ofNat 0)])], [(false, (0, 0, .ofNat 0))])
def zgl_l408_0 : List zC := [zc_l408, zc_l409, zc_l410, zc_l411, zc_l412, zc_l413, zc_l414, zc_l415, zc_l416, zc_l417, zc_l418, zc_l419, zc_l420, zc_l421, zc_l422, zc_l423]
def zgl_l408_1 : List zC := [zc_l424, zc_l425, zc_l426, zc_l427, zc_l428, zc_l429, zc_l430, zc_l431, zc_l432, zc_l433, zc_l434, zc_l435, zc_l436, zc_l437, zc_l438, zc_l439]
def zgl_l408_2 : List zC := [zc_l440, zc_l441, zc_l442, zc_l443, zc_l444, zc_l445, zc_l446, zc_l447, zc_l448, zc_l449, zc_l450, zc_l451, zc_l452, zc_l453, zc_l454, zc_l455]
def zgl_l408_3 : List zC := [zc_l456, zc_l457, zc_l458, zc_l459, zc_l460, zc_l461, zc_l462, zc_l463, zc_l464, zc_l465, zc_l466, zc_l467, zc_l468, zc_l469, zc_l470, zc_l471]
def zgl_l408_4 : List zC := [zc_l472, zc_l473, zc_l474, zc_l475, zc_l476, zc_l477, zc_l478, zc_l479, zc_l480, zc_l481, zc_l482, zc_l483, zc_l484, zc_l485, zc_l486, zc_l487]
def zgl_l408_5 : List zC := [zc_l488, zc_l489, zc_l490, zc_l491, zc_l492, zc_l493, zc_l494, zc_l495, zc_l496, zc_l497, zc_l498, zc_l499, zc_l500, zc_l501, zc_l502, zc_l503]
def zgl_l408_6 : List zC := [zc_l504, zc_l505, zc_l506, zc_l507, zc_l508]
def zgl_l408 : List zC := zgl_l408_0 ++ (zgl_l408_1 ++ (zgl_l408_2 ++ (zgl_l408_3 ++ (zgl_l408_4 ++ (zgl_l408_5 ++ (zgl_l408_6))))))
def zgh_l408_0 : List (zC × zHt) := [(zc_l408, [(5, 0, 0), (5, 1, 0)]), (zc_l409, [(13, 2, 94)]), (zc_l410, [(13, 2, 94)]), (zc_l411, [(13, 2, 94)]), (zc_l412, [(13, 2, 94)]), (zc_l413, [(13, 2, 94)]), (zc_l414, [(13, 2, 94)]), (zc_l415, [(13, 2, 94)]), (zc_l416, [(13, 2, 94)]), (zc_l417, [(13, 2, 94)]), (zc_l418, [(13, 2, 94)]), (zc_l419, [(13, 2, 94)]), (zc_l420, [(13, 2, 94)]), (zc_l421, [(13, 2, 94)]), (zc_l422, [(13, 2, 94)]), (zc_l423, [(13, 2, 94)])]
def zgh_l408_1 : List (zC × zHt) := [(zc_l424, [(13, 2, 94)]), (zc_l425, [(13, 2, 94)]), (zc_l426, [(13, 2, 94)]), (zc_l427, [(13, 2, 94)]), (zc_l428, [(13, 2, 94)]), (zc_l429, [(13, 2, 94)]), (zc_l430, [(13, 2, 94)]), (zc_l431, [(13, 2, 94)]), (zc_l432, [(13, 2, 94)]), (zc_l433, [(13, 2, 94)]), (zc_l434, [(13, 2, 94)]), (zc_l435, [(13, 2, 94)]), (zc_l436, [(13, 2, 94)]), (zc_l437, [(13, 2, 94)]), (zc_l438, [(13, 2, 94)]), (zc_l439, [(13, 2, 94)])]
def zgh_l408_2 : List (zC × zHt) := [(zc_l440, [(13, 2, 94)]), (zc_l441, [(13, 2, 94)]), (zc_l442, [(13, 2, 94)]), (zc_l443, [(13, 2, 94)]), (zc_l444, [(13, 2, 94)]), (zc_l445, [(13, 2, 94)]), (zc_l446, [(13, 2, 94)]), (zc_l447, [(13, 2, 94)]), (zc_l448, [(13, 2, 94)]), (zc_l449, [(13, 2, 94)]), (zc_l450, [(13, 2, 94)]), (zc_l451, [(13, 2, 94)]), (zc_l452, [(13, 2, 94)]), (zc_l453, [(13, 2, 94)]), (zc_l454, [(13, 2, 94)]), (zc_l455, [(13, 2, 94)])]
def zgh_l408_3 : List (zC × zHt) := [(zc_l456, [(13, 2, 94)]), (zc_l457, [(13, 2, 94)]), (zc_l458, [(13, 2, 94)]), (zc_l459, [(13, 2, 94)]), (zc_l460, [(13, 2, 94)]), (zc_l461, [(13, 2, 94)]), (zc_l462, [(13, 2, 94)]), (zc_l463, [(13, 2, 94)]), (zc_l464, [(13, 2, 94)]), (zc_l465, [(13, 2, 94)]), (zc_l466, [(13, 2, 94)]), (zc_l467, [(13, 2, 94)]), (zc_l468, [(13, 2, 94)]), (zc_l469, [(13, 2, 94)]), (zc_l470, [(13, 2, 94)]), (zc_l471, [(13, 2, 94)])]
def zgh_l408_4 : List (zC × zHt) := [(zc_l472, [(13, 2, 94)]), (zc_l473, [(13, 2, 94)]), (zc_l474, [(13, 2, 94)]), (zc_l475, [(13, 2, 94)]), (zc_l476, [(13, 2, 94)]), (zc_l477, [(13, 2, 94)]), (zc_l478, [(13, 2, 94)]), (zc_l479, [(13, 2, 94)]), (zc_l480, [(13, 2, 94)]), (zc_l481, [(13, 2, 94)]), (zc_l482, [(13, 2, 94)]), (zc_l483, [(13, 2, 94)]), (zc_l484, [(13, 2, 94)]), (zc_l485, [(13, 2, 94)]), (zc_l486, [(13, 2, 94)]), (zc_l487, [(13, 2, 94)])]
def zgh_l408_5 : List (zC × zHt) := [(zc_l488, [(13, 2, 94)]), (zc_l489, [(13, 2, 94)]), (zc_l490, [(13, 2, 94)]), (zc_l491, [(13, 2, 94)]), (zc_l492, [(13, 2, 94)]), (zc_l493, [(13, 2, 94)]), (zc_l494, [(13, 2, 94)]), (zc_l495, [(13, 2, 94)]), (zc_l496, [(13, 2, 94)]), (zc_l497, [(13, 2, 94)]), (zc_l498, [(13, 2, 94)]), (zc_l499, [(13, 2, 94)]), (zc_l500, [(13, 2, 94)]), (zc_l501, [(13, 2, 94)]), (zc_l502, [(13, 2, 94)]), (zc_l503, [(13, 2, 94)])]
def zgh_l408_6 : List (zC × zHt) := [(zc_l504, [(13, 2, 94)]), (zc_l505, [(13, 2, 94)]), (zc_l506, [(13, 2, 94)]), (zc_l507, [(13, 2, 94)]), (zc_l508, [(13, 2, 94)])]
theorem zge_l408_0 : zgh_l408_0.map Prod.fst = zgl_l408_0 := rfl
theorem zge_l408_1 : zgh_l408_1.map Prod.fst = zgl_l408_1 := rfl
theorem zge_l408_2 : zgh_l408_2.map Prod.fst = zgl_l408_2 := rfl
theorem zge_l408_3 : zgh_l408_3.map Prod.fst = zgl_l408_3 := rfl
theorem zge_l408_4 : zgh_l408_4.map Prod.fst = zgl_l408_4 := rfl
theorem zge_l408_5 : zgh_l408_5.map Prod.fst = zgl_l408_5 := rfl
theorem zge_l408_6 : zgh_l408_6.map Prod.fst = zgl_l408_6 := rfl
theorem zge_l408 : (zgh_l408_0 ++ (zgh_l408_1 ++ (zgh_l408_2 ++ (zgh_l408_3 ++ (zgh_l408_4 ++ (zgh_l408_5 ++ (zgh_l408_6))))))).map Prod.fst = zgl_l408 := by
  rw [List.map_append, zge_l408_0, List.map_append, zge_l408_1, List.map_append, zge_l408_2, List.map_append, zge_l408_3, List.map_append, zge_l408_4, List.map_append, zge_l408_5, zge_l408_6]
  rfl

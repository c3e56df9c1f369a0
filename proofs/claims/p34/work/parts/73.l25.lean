/-! the law's loop, printed by wip/p34/genall.py -/
theorem zt_l2428 : zchk zRUL 3 xBY zIN zCF [] zgl_l2428 20000 [(12, 3, 92), (12, 3, 93), (5, 0, 0), (5, 1, 0)] zc_l2428 = true := by decide +kernel
theorem zt_l2429 : zchk zRUL 3 xBY zIN zCF [] zgl_l2428 20000 [(12, 2, 91), (21, 2, 90)] zc_l2429 = true := by decide +kernel
theorem zt_l2430 : zchk zRUL 3 xBY zIN zCF [] zgl_l2428 20000 [(12, 2, 91), (21, 2, 90)] zc_l2430 = true := by decide +kernel
theorem zt_l2431 : zchk zRUL 3 xBY zIN zCF [] zgl_l2428 20000 [(12, 2, 91), (21, 2, 90)] zc_l2431 = true := by decide +kernel
theorem zt_l2432 : zchk zRUL 3 xBY zIN zCF [] zgl_l2428 20000 [(12, 2, 91), (21, 2, 90)] zc_l2432 = true := by decide +kernel
theorem zt_l2433 : zchk zRUL 3 xBY zIN zCF [] zgl_l2428 20000 [(12, 2, 91), (21, 2, 90)] zc_l2433 = true := by decide +kernel
theorem zt_l2434 : zchk zRUL 3 xBY zIN zCF [] zgl_l2428 20000 [(12, 2, 91), (21, 2, 90)] zc_l2434 = true := by decide +kernel
theorem zt_l2435 : zchk zRUL 3 xBY zIN zCF [] zgl_l2428 20000 [(12, 2, 91), (21, 2, 90)] zc_l2435 = true := by decide +kernel
theorem zt_l2436 : zchk zRUL 3 xBY zIN zCF [] zgl_l2428 20000 [(12, 2, 91), (21, 2, 90)] zc_l2436 = true := by decide +kernel
theorem zt_l2437 : zchk zRUL 3 xBY zIN zCF [] zgl_l2428 20000 [(12, 2, 91), (21, 2, 90)] zc_l2437 = true := by decide +kernel
theorem zt_l2438 : zchk zRUL 3 xBY zIN zCF [] zgl_l2428 20000 [(12, 2, 91), (21, 2, 90)] zc_l2438 = true := by decide +kernel
theorem zt_l2439 : zchk zRUL 3 xBY zIN zCF [] zgl_l2428 20000 [(12, 2, 91), (21, 2, 90)] zc_l2439 = true := by decide +kernel
theorem zt_l2440 : zchk zRUL 3 xBY zIN zCF [] zgl_l2428 20000 [(12, 2, 91), (21, 2, 90)] zc_l2440 = true := by decide +kernel
theorem zt_l2441 : zchk zRUL 3 xBY zIN zCF [] zgl_l2428 20000 [(12, 2, 91), (21, 2, 90)] zc_l2441 = true := by decide +kernel
theorem zt_l2442 : zchk zRUL 3 xBY zIN zCF [] zgl_l2428 20000 [(12, 2, 91), (21, 2, 90)] zc_l2442 = true := by decide +kernel
theorem zt_l2443 : zchk zRUL 3 xBY zIN zCF [] zgl_l2428 20000 [(12, 2, 91), (21, 2, 90)] zc_l2443 = true := by decide +kernel
theorem zga_l2428_0 : ∀ p ∈ zgh_l2428_0, zchk zRUL 3 xBY zIN zCF [] zgl_l2428 20000 p.2 p.1 = true := List.forall_mem_cons.mpr ⟨zt_l2428, List.forall_mem_cons.mpr ⟨zt_l2429, List.forall_mem_cons.mpr ⟨zt_l2430, List.forall_mem_cons.mpr ⟨zt_l2431, List.forall_mem_cons.mpr ⟨zt_l2432, List.forall_mem_cons.mpr ⟨zt_l2433, List.forall_mem_cons.mpr ⟨zt_l2434, List.forall_mem_cons.mpr ⟨zt_l2435, List.forall_mem_cons.mpr ⟨zt_l2436, List.forall_mem_cons.mpr ⟨zt_l2437, List.forall_mem_cons.mpr ⟨zt_l2438, List.forall_mem_cons.mpr ⟨zt_l2439, List.forall_mem_cons.mpr ⟨zt_l2440, List.forall_mem_cons.mpr ⟨zt_l2441, List.forall_mem_cons.mpr ⟨zt_l2442, List.forall_mem_cons.mpr ⟨zt_l2443, fun _ h => absurd h List.not_mem_nil⟩⟩⟩⟩⟩⟩⟩⟩⟩⟩⟩⟩⟩⟩⟩⟩
theorem zt_l2444 : zchk zRUL 3 xBY zIN zCF [] zgl_l2428 20000 [(12, 2, 91), (21, 2, 90)] zc_l2444 = true := by decide +kernel
theorem zt_l2445 : zchk zRUL 3 xBY zIN zCF [] zgl_l2428 20000 [(12, 2, 91), (21, 2, 90)] zc_l2445 = true := by decide +kernel
theorem zt_l2446 : zchk zRUL 3 xBY zIN zCF [] zgl_l2428 20000 [(12, 2, 91), (21, 2, 90)] zc_l2446 = true := by decide +kernel
theorem zt_l2447 : zchk zRUL 3 xBY zIN zCF [] zgl_l2428 20000 [(12, 2, 91), (21, 2, 90)] zc_l2447 = true := by decide +kernel
theorem zt_l2448 : zchk zRUL 3 xBY zIN zCF [] zgl_l2428 20000 [(12, 2, 91), (21, 2, 90)] zc_l2448 = true := by decide +kernel
theorem zt_l2449 : zchk zRUL 3 xBY zIN zCF [] zgl_l2428 20000 [(12, 2, 91), (21, 2, 90)] zc_l2449 = true := by decide +kernel
theorem zt_l2450 : zchk zRUL 3 xBY zIN zCF [] zgl_l2428 20000 [(12, 2, 91), (21, 2, 90)] zc_l2450 = true := by decide +kernel
theorem zt_l2451 : zchk zRUL 3 xBY zIN zCF [] zgl_l2428 20000 [(12, 2, 91), (21, 2, 90)] zc_l2451 = true := by decide +kernel
theorem zt_l2452 : zchk zRUL 3 xBY zIN zCF [] zgl_l2428 20000 [(12, 2, 91), (21, 2, 90)] zc_l2452 = true := by decide +kernel
theorem zt_l2453 : zchk zRUL 3 xBY zIN zCF [] zgl_l2428 20000 [(12, 2, 91), (21, 2, 90)] zc_l2453 = true := by decide +kernel
theorem zt_l2454 : zchk zRUL 3 xBY zIN zCF [] zgl_l2428 20000 [(12, 2, 91), (21, 2, 90)] zc_l2454 = true := by decide +kernel
theorem zt_l2455 : zchk zRUL 3 xBY zIN zCF [] zgl_l2428 20000 [(12, 2, 91), (21, 2, 90)] zc_l2455 = true := by decide +kernel
theorem zt_l2456 : zchk zRUL 3 xBY zIN zCF [] zgl_l2428 20000 [(12, 2, 91), (21, 2, 90)] zc_l2456 = true := by decide +kernel
theorem zt_l2457 : zchk zRUL 3 xBY zIN zCF [] zgl_l2428 20000 [(12, 2, 91), (21, 2, 90)] zc_l2457 = true := by decide +kernel
theorem zt_l2458 : zchk zRUL 3 xBY zIN zCF [] zgl_l2428 20000 [(12, 2, 91), (21, 2, 90)] zc_l2458 = true := by decide +kernel
theorem zt_l2459 : zchk zRUL 3 xBY zIN zCF [] zgl_l2428 20000 [(12, 2, 91), (21, 2, 90)] zc_l2459 = true := by decide +kernel
theorem zga_l2428_1 : ∀ p ∈ zgh_l2428_1, zchk zRUL 3 xBY zIN zCF [] zgl_l2428 20000 p.2 p.1 = true := List.forall_mem_cons.mpr ⟨zt_l2444, List.forall_mem_cons.mpr ⟨zt_l2445, List.forall_mem_cons.mpr ⟨zt_l2446, List.forall_mem_cons.mpr ⟨zt_l2447, List.forall_mem_cons.mpr ⟨zt_l2448, List.forall_mem_cons.mpr ⟨zt_l2449, List.forall_mem_cons.mpr ⟨zt_l2450, List.forall_mem_cons.mpr ⟨zt_l2451, List.forall_mem_cons.mpr ⟨zt_l2452, List.forall_mem_cons.mpr ⟨zt_l2453, List.forall_mem_cons.mpr ⟨zt_l2454, List.forall_mem_cons.mpr ⟨zt_l2455, List.forall_mem_cons.mpr ⟨zt_l2456, List.forall_mem_cons.mpr ⟨zt_l2457, List.forall_mem_cons.mpr ⟨zt_l2458, List.forall_mem_cons.mpr ⟨zt_l2459, fun _ h => absurd h List.not_mem_nil⟩⟩⟩⟩⟩⟩⟩⟩⟩⟩⟩⟩⟩⟩⟩⟩
theorem zt_l2460 : zchk zRUL 3 xBY zIN zCF [] zgl_l2428 20000 [(12, 2, 91), (21, 2, 90)] zc_l2460 = true := by decide +kernel
theorem zt_l2461 : zchk zRUL 3 xBY zIN zCF [] zgl_l2428 20000 [(12, 2, 91), (21, 2, 90)] zc_l2461 = true := by decide +kernel
theorem zt_l2462 : zchk zRUL 3 xBY zIN zCF [] zgl_l2428 20000 [(12, 2, 91), (21, 2, 90)] zc_l2462 = true := by decide +kernel
theorem zt_l2463 : zchk zRUL 3 xBY zIN zCF [] zgl_l2428 20000 [(12, 2, 91), (21, 2, 90)] zc_l2463 = true := by decide +kernel
theorem zt_l2464 : zchk zRUL 3 xBY zIN zCF [] zgl_l2428 20000 [(12, 2, 91), (21, 2, 90)] zc_l2464 = true := by decide +kernel
theorem zt_l2465 : zchk zRUL 3 xBY zIN zCF [] zgl_l2428 20000 [(12, 2, 91), (21, 2, 90)] zc_l2465 = true := by decide +kernel
theorem zt_l2466 : zchk zRUL 3 xBY zIN zCF [] zgl_l2428 20000 [(12, 2, 91), (21, 2, 90)] zc_l2466 = true := by decide +kernel
theorem zt_l2467 : zchk zRUL 3 xBY zIN zCF [] zgl_l2428 20000 [(12, 2, 91), (21, 2, 90)] zc_l2467 = true := by decide +kernel
theorem zt_l2468 : zchk zRUL 3 xBY zIN zCF [] zgl_l2428 20000 [(12, 2, 91), (21, 2, 90)] zc_l2468 = true := by decide +kernel
theorem zt_l2469 : zchk zRUL 3 xBY zIN zCF [] zgl_l2428 20000 [(12, 2, 91), (21, 2, 90)] zc_l2469 = true := by decide +kernel
theorem zt_l2470 : zchk zRUL 3 xBY zIN zCF [] zgl_l2428 20000 [(12, 2, 91), (21, 2, 90)] zc_l2470 = true := by decide +kernel
theorem zt_l2471 : zchk zRUL 3 xBY zIN zCF [] zgl_l2428 20000 [(12, 2, 91), (21, 2, 90)] zc_l2471 = true := by decide +kernel
theorem zt_l2472 : zchk zRUL 3 xBY zIN zCF [] zgl_l2428 20000 [(12, 2, 91), (21, 2, 90)] zc_l2472 = true := by decide +kernel
theorem zt_l2473 : zchk zRUL 3 xBY zIN zCF [] zgl_l2428 20000 [(12, 2, 91), (21, 2, 90)] zc_l2473 = true := by decide +kernel
theorem zt_l2474 : zchk zRUL 3 xBY zIN zCF [] zgl_l2428 20000 [(12, 2, 91), (21, 2, 90)] zc_l2474 = true := by decide +kernel
theorem zt_l2475 : zchk zRUL 3 xBY zIN zCF [] zgl_l2428 20000 [(12, 2, 91), (21, 2, 90)] zc_l2475 = true := by decide +kernel
theorem zga_l2428_2 : ∀ p ∈ zgh_l2428_2, zchk zRUL 3 xBY zIN zCF [] zgl_l2428 20000 p.2 p.1 = true := List.forall_mem_cons.mpr ⟨zt_l2460, List.forall_mem_cons.mpr ⟨zt_l2461, List.forall_mem_cons.mpr ⟨zt_l2462, List.forall_mem_cons.mpr ⟨zt_l2463, List.forall_mem_cons.mpr ⟨zt_l2464, List.forall_mem_cons.mpr ⟨zt_l2465, List.forall_mem_cons.mpr ⟨zt_l2466, List.forall_mem_cons.mpr ⟨zt_l2467, List.forall_mem_cons.mpr ⟨zt_l2468, List.forall_mem_cons.mpr ⟨zt_l2469, List.forall_mem_cons.mpr ⟨zt_l2470, List.forall_mem_cons.mpr ⟨zt_l2471, List.forall_mem_cons.mpr ⟨zt_l2472, List.forall_mem_cons.mpr ⟨zt_l2473, List.forall_mem_cons.mpr ⟨zt_l2474, List.forall_mem_cons.mpr ⟨zt_l2475, fun _ h => absurd h List.not_mem_nil⟩⟩⟩⟩⟩⟩⟩⟩⟩⟩⟩⟩⟩⟩⟩⟩
theorem zt_l2476 : zchk zRUL 3 xBY zIN zCF [] zgl_l2428 20000 [(12, 2, 91), (21, 2, 90)] zc_l2476 = true := by decide +kernel
theorem zt_l2477 : zchk zRUL 3 xBY zIN zCF [] zgl_l2428 20000 [(12, 2, 91), (21, 2, 90)] zc_l2477 = true := by decide +kernel
theorem zt_l2478 : zchk zRUL 3 xBY zIN zCF [] zgl_l2428 20000 [(12, 2, 91), (21, 2, 90)] zc_l2478 = true := by decide +kernel
theorem zt_l2479 : zchk zRUL 3 xBY zIN zCF [] zgl_l2428 20000 [(12, 2, 91), (21, 2, 90)] zc_l2479 = true := by decide +kernel
theorem zt_l2480 : zchk zRUL 3 xBY zIN zCF [] zgl_l2428 20000 [(12, 2, 91), (21, 2, 90)] zc_l2480 = true := by decide +kernel
theorem zt_l2481 : zchk zRUL 3 xBY zIN zCF [] zgl_l2428 20000 [(12, 2, 91), (21, 2, 90)] zc_l2481 = true := by decide +kernel
theorem zt_l2482 : zchk zRUL 3 xBY zIN zCF [] zgl_l2428 20000 [(12, 2, 91), (21, 2, 90)] zc_l2482 = true := by decide +kernel
theorem zt_l2483 : zchk zRUL 3 xBY zIN zCF [] zgl_l2428 20000 [(12, 2, 91), (21, 2, 90)] zc_l2483 = true := by decide +kernel
theorem zt_l2484 : zchk zRUL 3 xBY zIN zCF [] zgl_l2428 20000 [(12, 2, 91), (21, 2, 90)] zc_l2484 = true := by decide +kernel
theorem zt_l2485 : zchk zRUL 3 xBY zIN zCF [] zgl_l2428 20000 [(12, 2, 91), (21, 2, 90)] zc_l2485 = true := by decide +kernel
theorem zt_l2486 : zchk zRUL 3 xBY zIN zCF [] zgl_l2428 20000 [(12, 2, 91), (21, 2, 90)] zc_l2486 = true := by decide +kernel
theorem zt_l2487 : zchk zRUL 3 xBY zIN zCF [] zgl_l2428 20000 [(12, 2, 91), (21, 2, 90)] zc_l2487 = true := by decide +kernel
theorem zt_l2488 : zchk zRUL 3 xBY zIN zCF [] zgl_l2428 20000 [(12, 2, 91), (21, 2, 90)] zc_l2488 = true := by decide +kernel
theorem zt_l2489 : zchk zRUL 3 xBY zIN zCF [] zgl_l2428 20000 [(12, 2, 91), (21, 2, 90)] zc_l2489 = true := by decide +kernel
theorem zt_l2490 : zchk zRUL 3 xBY zIN zCF [] zgl_l2428 20000 [(12, 2, 91), (21, 2, 90)] zc_l2490 = true := by decide +kernel
theorem zt_l2491 : zchk zRUL 3 xBY zIN zCF [] zgl_l2428 20000 [(12, 2, 91), (21, 2, 90)] zc_l2491 = true := by decide +kernel
theorem zga_l2428_3 : ∀ p ∈ zgh_l2428_3, zchk zRUL 3 xBY zIN zCF [] zgl_l2428 20000 p.2 p.1 = true := List.forall_mem_cons.mpr ⟨zt_l2476, List.forall_mem_cons.mpr ⟨zt_l2477, List.forall_mem_cons.mpr ⟨zt_l2478, List.forall_mem_cons.mpr ⟨zt_l2479, List.forall_mem_cons.mpr ⟨zt_l2480, List.forall_mem_cons.mpr ⟨zt_l2481, List.forall_mem_cons.mpr ⟨zt_l2482, List.forall_mem_cons.mpr ⟨zt_l2483, List.forall_mem_cons.mpr ⟨zt_l2484, List.forall_mem_cons.mpr ⟨zt_l2485, List.forall_mem_cons.mpr ⟨zt_l2486, List.forall_mem_cons.mpr ⟨zt_l2487, List.forall_mem_cons.mpr ⟨zt_l2488, List.forall_mem_cons.mpr ⟨zt_l2489, List.forall_mem_cons.mpr ⟨zt_l2490, List.forall_mem_cons.mpr ⟨zt_l2491, fun _ h => absurd h List.not_mem_nil⟩⟩⟩⟩⟩⟩⟩⟩⟩⟩⟩⟩⟩⟩⟩⟩
theorem zt_l2492 : zchk zRUL 3 xBY zIN zCF [] zgl_l2428 20000 [(12, 2, 91), (21, 2, 90)] zc_l2492 = true := by decide +kernel
theorem zt_l2493 : zchk zRUL 3 xBY zIN zCF [] zgl_l2428 20000 [(12, 2, 91), (21, 2, 90)] zc_l2493 = true := by decide +kernel
theorem zt_l2494 : zchk zRUL 3 xBY zIN zCF [] zgl_l2428 20000 [(12, 2, 91), (21, 2, 90)] zc_l2494 = true := by decide +kernel
theorem zt_l2495 : zchk zRUL 3 xBY zIN zCF [] zgl_l2428 20000 [(12, 2, 91), (21, 2, 90)] zc_l2495 = true := by decide +kernel
theorem zt_l2496 : zchk zRUL 3 xBY zIN zCF [] zgl_l2428 20000 [(12, 2, 91), (21, 2, 90)] zc_l2496 = true := by decide +kernel
theorem zt_l2497 : zchk zRUL 3 xBY zIN zCF [] zgl_l2428 20000 [(12, 2, 91), (21, 2, 90)] zc_l2497 = true := by decide +kernel
theorem zt_l2498 : zchk zRUL 3 xBY zIN zCF [] zgl_l2428 20000 [(12, 2, 91), (21, 2, 90)] zc_l2498 = true := by decide +kernel
theorem zt_l2499 : zchk zRUL 3 xBY zIN zCF [] zgl_l2428 20000 [(12, 2, 91), (21, 2, 90)] zc_l2499 = true := by decide +kernel
theorem zt_l2500 : zchk zRUL 3 xBY zIN zCF [] zgl_l2428 20000 [(12, 2, 91), (21, 2, 90)] zc_l2500 = true := by decide +kernel
theorem zt_l2501 : zchk zRUL 3 xBY zIN zCF [] zgl_l2428 20000 [(12, 2, 91), (21, 2, 90)] zc_l2501 = true := by decide +kernel
theorem zt_l2502 : zchk zRUL 3 xBY zIN zCF [] zgl_l2428 20000 [(12, 2, 91), (21, 2, 90)] zc_l2502 = true := by decide +kernel
theorem zt_l2503 : zchk zRUL 3 xBY zIN zCF [] zgl_l2428 20000 [(12, 2, 91), (21, 2, 90)] zc_l2503 = true := by decide +kernel
theorem zt_l2504 : zchk zRUL 3 xBY zIN zCF [] zgl_l2428 20000 [(12, 2, 91), (21, 2, 90)] zc_l2504 = true := by decide +kernel
theorem zt_l2505 : zchk zRUL 3 xBY zIN zCF [] zgl_l2428 20000 [(12, 2, 91), (21, 2, 90)] zc_l2505 = true := by decide +kernel
theorem zt_l2506 : zchk zRUL 3 xBY zIN zCF [] zgl_l2428 20000 [(12, 2, 91), (21, 2, 90)] zc_l2506 = true := by decide +kernel
theorem zt_l2507 : zchk zRUL 3 xBY zIN zCF [] zgl_l2428 20000 [(12, 2, 91), (21, 2, 90)] zc_l2507 = true := by decide +kernel
theorem zga_l2428_4 : ∀ p ∈ zgh_l2428_4, zchk zRUL 3 xBY zIN zCF [] zgl_l2428 20000 p.2 p.1 = true := List.forall_mem_cons.mpr ⟨zt_l2492, List.forall_mem_cons.mpr ⟨zt_l2493, List.forall_mem_cons.mpr ⟨zt_l2494, List.forall_mem_cons.mpr ⟨zt_l2495, List.forall_mem_cons.mpr ⟨zt_l2496, List.forall_mem_cons.mpr ⟨zt_l2497, List.forall_mem_cons.mpr ⟨zt_l2498, List.forall_mem_cons.mpr ⟨zt_l2499, List.forall_mem_cons.mpr ⟨zt_l2500, List.forall_mem_cons.mpr ⟨zt_l2501, List.forall_mem_cons.mpr ⟨zt_l2502, List.forall_mem_cons.mpr ⟨zt_l2503, List.forall_mem_cons.mpr ⟨zt_l2504, List.forall_mem_cons.mpr ⟨zt_l2505, List.forall_mem_cons.mpr ⟨zt_l2506, List.forall_mem_cons.mpr ⟨zt_l2507, fun _ h => absurd h List.not_mem_nil⟩⟩⟩⟩⟩⟩⟩⟩⟩⟩⟩⟩⟩⟩⟩⟩
theorem zt_l2508 : zchk zRUL 3 xBY zIN zCF [] zgl_l2428 20000 [(12, 2, 91), (21, 2, 90)] zc_l2508 = true := by decide +kernel
theorem zt_l2509 : zchk zRUL 3 xBY zIN zCF [] zgl_l2428 20000 [(12, 2, 91), (21, 2, 90)] zc_l2509 = true := by decide +kernel
theorem zt_l2510 : zchk zRUL 3 xBY zIN zCF [] zgl_l2428 20000 [(12, 2, 91), (21, 2, 90)] zc_l2510 = true := by decide +kernel
theorem zt_l2511 : zchk zRUL 3 xBY zIN zCF [] zgl_l2428 20000 [(12, 2, 91), (21, 2, 90)] zc_l2511 = true := by decide +kernel
theorem zt_l2512 : zchk zRUL 3 xBY zIN zCF [] zgl_l2428 20000 [(12, 2, 91), (21, 2, 90)] zc_l2512 = true := by decide +kernel
theorem zt_l2513 : zchk zRUL 3 xBY zIN zCF [] zgl_l2428 20000 [(12, 2, 91), (21, 2, 90)] zc_l2513 = true := by decide +kernel
theorem zt_l2514 : zchk zRUL 3 xBY zIN zCF [] zgl_l2428 20000 [(12, 2, 91), (21, 2, 90)] zc_l2514 = true := by decide +kernel
theorem zt_l2515 : zchk zRUL 3 xBY zIN zCF [] zgl_l2428 20000 [(12, 2, 91), (21, 2, 90)] zc_l2515 = true := by decide +kernel
theorem zt_l2516 : zchk zRUL 3 xBY zIN zCF [] zgl_l2428 20000 [(12, 2, 91), (21, 2, 90)] zc_l2516 = true := by decide +kernel
theorem zt_l2517 : zchk zRUL 3 xBY zIN zCF [] zgl_l2428 20000 [(12, 2, 91), (21, 2, 90)] zc_l2517 = true := by decide +kernel
theorem zt_l2518 : zchk zRUL 3 xBY zIN zCF [] zgl_l2428 20000 [(12, 2, 91), (21, 2, 90)] zc_l2518 = true := by decide +kernel
theorem zt_l2519 : zchk zRUL 3 xBY zIN zCF [] zgl_l2428 20000 [(12, 2, 91), (21, 2, 90)] zc_l2519 = true := by decide +kernel
theorem zt_l2520 : zchk zRUL 3 xBY zIN zCF [] zgl_l2428 20000 [(12, 2, 91), (21, 2, 90)] zc_l2520 = true := by decide +kernel
theorem zt_l2521 : zchk zRUL 3 xBY zIN zCF [] zgl_l2428 20000 [(12, 2, 91), (21, 2, 90)] zc_l2521 = true := by decide +kernel
theorem zt_l2522 : zchk zRUL 3 xBY zIN zCF [] zgl_l2428 20000 [(12, 2, 91), (21, 2, 90)] zc_l2522 = true := by decide +kernel
theorem zt_l2523 : zchk zRUL 3 xBY zIN zCF [] zgl_l2428 20000 [(12, 2, 91), (21, 2, 90)] zc_l2523 = true := by decide +kernel
theorem zga_l2428_5 : ∀ p ∈ zgh_l2428_5, zchk zRUL 3 xBY zIN zCF [] zgl_l2428 20000 p.2 p.1 = true := List.forall_mem_cons.mpr ⟨zt_l2508, List.forall_mem_cons.mpr ⟨zt_l2509, List.forall_mem_cons.mpr ⟨zt_l2510, List.forall_mem_cons.mpr ⟨zt_l2511, List.forall_mem_cons.mpr ⟨zt_l2512, List.forall_mem_cons.mpr ⟨zt_l2513, List.forall_mem_cons.mpr ⟨zt_l2514, List.forall_mem_cons.mpr ⟨zt_l2515, List.forall_mem_cons.mpr ⟨zt_l2516, List.forall_mem_cons.mpr ⟨zt_l2517, List.forall_mem_cons.mpr ⟨zt_l2518, List.forall_mem_cons.mpr ⟨zt_l2519, List.forall_mem_cons.mpr ⟨zt_l2520, List.forall_mem_cons.mpr ⟨zt_l2521, List.forall_mem_cons.mpr ⟨zt_l2522, List.forall_mem_cons.mpr ⟨zt_l2523, fun _ h => absurd h List.not_mem_nil⟩⟩⟩⟩⟩⟩⟩⟩⟩⟩⟩⟩⟩⟩⟩⟩
theorem zt_l2524 : zchk zRUL 3 xBY zIN zCF [] zgl_l2428 20000 [(12, 2, 91), (21, 2, 90)] zc_l2524 = true := by decide +kernel
theorem zt_l2525 : zchk zRUL 3 xBY zIN zCF [] zgl_l2428 20000 [(12, 2, 91), (21, 2, 90)] zc_l2525 = true := by decide +kernel
theorem zt_l2526 : zchk zRUL 3 xBY zIN zCF [] zgl_l2428 20000 [(12, 2, 91), (21, 2, 90)] zc_l2526 = true := by decide +kernel
theorem zt_l2527 : zchk zRUL 3 xBY zIN zCF [] zgl_l2428 20000 [(12, 2, 91), (21, 2, 90)] zc_l2527 = true := by decide +kernel
theorem zt_l2528 : zchk zRUL 3 xBY zIN zCF [] zgl_l2428 20000 [(12, 2, 91), (21, 2, 90)] zc_l2528 = true := by decide +kernel
theorem zga_l2428_6 : ∀ p ∈ zgh_l2428_6, zchk zRUL 3 xBY zIN zCF [] zgl_l2428 20000 p.2 p.1 = true := List.forall_mem_cons.mpr ⟨zt_l2524, List.forall_mem_cons.mpr ⟨zt_l2525, List.forall_mem_cons.mpr ⟨zt_l2526, List.forall_mem_cons.mpr ⟨zt_l2527, List.forall_mem_cons.mpr ⟨zt_l2528, fun _ h => absurd h List.not_mem_nil⟩⟩⟩⟩⟩
theorem zk_l2428 {g : yG} {J : zJp} (hy : zHy g J) : zCok g zCF J zc_l2428 := zgp2 hy (CT := []) (fun _ h => absurd h List.not_mem_nil) (fuel := 20000) (L := zgh_l2428_0 ++ (zgh_l2428_1 ++ (zgh_l2428_2 ++ (zgh_l2428_3 ++ (zgh_l2428_4 ++ (zgh_l2428_5 ++ (zgh_l2428_6))))))) zge_l2428 (List.forall_mem_append.mpr ⟨zga_l2428_0, List.forall_mem_append.mpr ⟨zga_l2428_1, List.forall_mem_append.mpr ⟨zga_l2428_2, List.forall_mem_append.mpr ⟨zga_l2428_3, List.forall_mem_append.mpr ⟨zga_l2428_4, List.forall_mem_append.mpr ⟨zga_l2428_5, zga_l2428_6⟩⟩⟩⟩⟩⟩) (zc_l2428, [(12, 3, 92), (12, 3, 93), (5, 0, 0), (5, 1, 0)]) (List.mem_append_left _ List.mem_cons_self)
/-- GridLawsModel.later, row 0 -/
def zc_l2529 : zC := (287, 0, 1, [(3, 88, .ofNat 0), (1, 0, .ofNat 0)], ([(88, (0, 0, .ofNat 28), (1, 1, .ofNat 0)), (1049, (1, 0, .ofNat 0), (0, 0, .ofNat 0))], []), [(.ofNat 800, .ofNat 899, 0, .ofNat 0), (.ofNat 0, .ofNat 100000, 0, .ofNat 0)], [], [(some (0, 0, .negSucc 0), ([], []), [(.ofNat 800, .ofNat 899, 0, .ofNat 0), (.ofNat 0, .ofNat 100000, 0, .ofNat 0)])], [(false, (0, 0, .ofNat 1))])
/-- GridLawsModel.later, row 5 -/
def zc_l2530 : zC := (287, 5, 1, [(3, 88, .ofNat 0), (0, 0, .ofNat 800)], ([(88, (0, 0, .ofNat 28), (1, 0, .ofNat 0)), (1049, (0, 0, .ofNat 800), (0, 0, .ofNat 0))], []), [(.ofNat 0, .ofNat 100000, 0, .ofNat 0)], [], [(some (0, 0, .negSucc 0), ([], []), [(.ofNat 0, .ofNat 100000, 0, .ofNat 0)])], [(false, (0, 0, .ofNat 0))])
/-- GridLawsModel.later, row 5 -/
def zc_l2531 : zC := (287, 5, 1, [(3, 88, .ofNat 0), (0, 0, .ofNat 801)], ([(88, (0, 0, .ofNat 28), (1, 0, .ofNat 0)), (1049, (0, 0, .ofNat 801), (0, 0, .ofNat 0))], []), [(.ofNat 0, .ofNat 100000, 0, .ofNat 0)], [], [(some (0, 0, .negSucc 0), ([], []), [(.ofNat 0, .ofNat 100000, 0, .ofNat 0)])], [(false, (0, 0, .ofNat 0))])
/-- GridLawsModel.later, row 5 -/
def zc_l2532 : zC := (287, 5, 1, [(3, 88, .ofNat 0), (0, 0, .ofNat 802)], ([(88, (0, 0, .ofNat 28), (1, 0, .ofNat 0)), (1049, (0, 0, .ofNat 802), (0, 0, .ofNat 0))], []), [(.ofNat 0, .ofNat 100000, 0, .ofNat 0)], [], [(some (0, 0, .negSucc 0), ([], []), [(.ofNat 0, .ofNat 100000, 0, .ofNat 0)])], [(false, (0, 0, .ofNat 0))])
/-- GridLawsModel.later, row 5 -/
def zc_l2533 : zC := (287, 5, 1, [(3, 88, .ofNat 0), (0, 0, .ofNat 803)], ([(88, (0, 0, .ofNat 28), (1, 0, .ofNat 0)), (1049, (0, 0, .ofNat 803), (0, 0, .ofNat 0))], []), [(.ofNat 0, .ofNat 100000, 0, .ofNat 0)], [], [(some (0, 0, .negSucc 0), ([], []), [(.ofNat 0, .ofNat 100000, 0, .ofNat 0)])], [(false, (0, 0, .ofNat 0))])
/-- GridLawsModel.later, row 5 -/
def zc_l2534 : zC := (287, 5, 1, [(3, 88, .ofNat 0), (0, 0, .ofNat 804)], ([(88, (0, 0, .ofNat 28), (1, 0, .ofNat 0)), (1049, (0, 0, .ofNat 804), (0, 0, .ofNat 0))], []), [(.ofNat 0, .ofNat 100000, 0, .ofNat 0)], [], [(some (0, 0, .negSucc 0), ([], []), [(.ofNat 0, .ofNat 100000, 0, .ofNat 0)])], [(false, (0, 0, .ofNat 0))])
/-- GridLawsModel.later, row 5 -/
def zc_l2535 : zC := (287, 5, 1, [(3, 88, .ofNat 0), (0, 0, .ofNat 805)], ([(88, (0, 0, .ofNat 28), (1, 0, .ofNat 0)), (1049, (0, 0, .ofNat 805), (0, 0, .ofNat 0))], []), [(.ofNat 0, .ofNat 100000, 0, .ofNat 0)], [], [(some (0, 0, .negSucc 0), ([], []), [(.ofNat 0, .ofNat 100000, 0, .ofNat 0)])], [(false, (0, 0, .ofNat 0))])
/-- GridLawsModel.later, row 5 -/
def zc_l2536 : zC := (287, 5, 1, [(3, 88, .ofNat 0), (0, 0, .ofNat 806)], ([(88, (0, 0, .ofNat 28), (1, 0, .ofNat 0)), (1049, (0, 0, .ofNat 806), (0, 0, .ofNat 0))], []), [(.ofNat 0, .ofNat 100000, 0, .ofNat 0)], [], [(some (0, 0, .negSucc 0), ([], []), [(.ofNat 0, .ofNat 100000, 0, .ofNat 0)])], [(false, (0, 0, .ofNat 0))])
/-- GridLawsModel.later, row 5 -/
def zc_l2537 : zC := (287, 5, 1, [(3, 88, .ofNat 0), (0, 0, .ofNat 807)], ([(88, (0, 0, .ofNat 28), (1, 0, .ofNat 0)), (1049, (0, 0, .ofNat 807), (0, 0, .ofNat 0))], []), [(.ofNat 0, .ofNat 100000, 0, .ofNat 0)], [], [(some (0, 0, .negSucc 0), ([], []), [(.ofNat 0, .ofNat 100000, 0, .ofNat 0)])], [(false, (0, 0, .ofNat 0))])
/-- GridLawsModel.later, row 5 -/
def zc_l2538 : zC := (287, 5, 1, [(3, 88, .ofNat 0), (0, 0, .ofNat 808)], ([(88, (0, 0, .ofNat 28), (1, 0, .ofNat 0)), (1049, (0, 0, .ofNat 808), (0, 0, .ofNat 0))], []), [(.ofNat 0, .ofNat 100000, 0, .ofNat 0)], [], [(some (0, 0, .negSucc 0), ([], []), [(.ofNat 0, .ofNat 100000, 0, .ofNat 0)])], [(false, (0, 0, .ofNat 0))])
/-- GridLawsModel.later, row 5 -/
def zc_l2539 : zC := (287, 5, 1, [(3, 88, .ofNat 0), (0, 0, .ofNat 809)], ([(88, (0, 0, .ofNat 28), (1, 0, .ofNat 0)), (1049, (0, 0, .ofNat 809), (0, 0, .ofNat 0))], []), [(.ofNat 0, .ofNat 100000, 0, .ofNat 0)], [], [(some (0, 0, .negSucc 0), ([], []), [(.ofNat 0, .ofNat 100000, 0, .ofNat 0)])], [(false, (0, 0, .ofNat 0))])
/-- GridLawsModel.later, row 5 -/
def zc_l2540 : zC := (287, 5, 1, [(3, 88, .ofNat 0), (0, 0, .ofNat 810)], ([(88, (0, 0, .ofNat 28), (1, 0, .ofNat 0)), (1049, (0, 0, .ofNat 810), (0, 0, .ofNat 0))], []), [(.ofNat 0, .ofNat 100000, 0, .ofNat 0)], [], [(some (0, 0, .negSucc 0), ([], []), [(.ofNat 0, .ofNat 100000, 0, .ofNat 0)])], [(false, (0, 0, .ofNat 0))])
/-- GridLawsModel.later, row 5 -/
def zc_l2541 : zC := (287, 5, 1, [(3, 88, .ofNat 0), (0, 0, .ofNat 811)], ([(88, (0, 0, .ofNat 28), (1, 0, .ofNat 0)), (1049, (0, 0, .ofNat 811), (0, 0, .ofNat 0))], []), [(.ofNat 0, .ofNat 100000, 0, .ofNat 0)], [], [(some (0, 0, .negSucc 0), ([], []), [(.ofNat 0, .ofNat 100000, 0, .ofNat 0)])], [(false, (0, 0, .ofNat 0))])
/-- GridLawsModel.later, row 5 -/
def zc_l2542 : zC := (287, 5, 1, [(3, 88, .ofNat 0), (0, 0, .ofNat 812)], ([(88, (0, 0, .ofNat 28), (1, 0, .ofNat 0)), (1049, (0, 0, .ofNat 812), (0, 0, .ofNat 0))], []), [(.ofNat 0, .ofNat 100000, 0, .ofNat 0)], [], [(some (0, 0, .negSucc 0), ([], []), [(.ofNat 0, .ofNat 100000, 0, .ofNat 0)])], [(false, (0, 0, .ofNat 0))])
/-- GridLawsModel.later, row 5 -/
def zc_l2543 : zC := (287, 5, 1, [(3, 88, .ofNat 0), (0, 0, .ofNat 813)], ([(88, (0, 0, .ofNat 28), (1, 0, .ofNat 0)), (1049, (0, 0, .ofNat 813), (0, 0, .ofNat 0))], []), [(.ofNat 0, .ofNat 100000, 0, .ofNat 0)], [], [(some (0, 0, .negSucc 0), ([], []), [(.ofNat 0, .ofNat 100000, 0, .ofNat 0)])], [(false, (0, 0, .ofNat 0))])
/-- GridLawsModel.later, row 5 -/
def zc_l2544 : zC := (287, 5, 1, [(3, 88, .ofNat 0), (0, 0, .ofNat 814)], ([(88, (0, 0, .ofNat 28), (1, 0, .ofNat 0)), (1049, (0, 0, .ofNat 814), (0, 0, .ofNat 0))], []), [(.ofNat 0, .ofNat 100000, 0, .ofNat 0)], [], [(some (0, 0, .negSucc 0), ([], []), [(.ofNat 0, .ofNat 100000, 0, .ofNat 0)])], [(false, (0, 0, .ofNat 0))])
/-- GridLawsModel.later, row 5 -/
def zc_l2545 : zC := (287, 5, 1, [(3, 88, .ofNat 0), (0, 0, .ofNat 815)], ([(88, (0, 0, .ofNat 28), (1, 0, .ofNat 0)), (1049, (0, 0, .ofNat 815), (0, 0, .ofNat 0))], []), [(.ofNat 0, .ofNat 100000, 0, .ofNat 0)], [], [(some (0, 0, .negSucc 0), ([], []), [(.ofNat 0, .ofNat 100000, 0, .ofNat 0)])], [(false, (0, 0, .ofNat 0))])
/-- GridLawsModel.later, row 5 -/
def zc_l2546 : zC := (287, 5, 1, [(3, 88, .ofNat 0), (0, 0, .ofNat 816)], ([(88, (0, 0, .ofNat 28), (1, 0, .ofNat 0)), (1049, (0, 0, .ofNat 816), (0, 0, .ofNat 0))], []), [(.ofNat 0, .ofNat 100000, 0, .ofNat 0)], [], [(some (0, 0, .negSucc 0), ([], []), [(.ofNat 0, .ofNat 100000, 0, .ofNat 0)])], [(false, (0, 0, .ofNat 0))])
/-- GridLawsModel.later, row 5 -/
def zc_l2547 : zC := (287, 5, 1, [(3, 88, .ofNat 0), (0, 0, .ofNat 817)], ([(88, (0, 0, .ofNat 28), (1, 0, .ofNat 0)), (1049, (0, 0, .ofNat 817), (0, 0, .ofNat 0))], []), [(.ofNat 0, .ofNat 100000, 0, .ofNat 0)], [], [(some (0, 0, .negSucc 0), ([], []), [(.ofNat 0, .ofNat 100000, 0, .ofNat 0)])], [(false, (0, 0, .ofNat 0))])
/-- GridLawsModel.later, row 5 -/
def zc_l2548 : zC := (287, 5, 1, [(3, 88, .ofNat 0), (0, 0, .ofNat 818)], ([(88, (0, 0, .ofNat 28), (1, 0, .ofNat 0)), (1049, (0, 0, .ofNat 818), (0, 0, .ofNat 0))], []), [(.ofNat 0, .ofNat 100000, 0, .ofNat 0)], [], [(some (0, 0, .negSucc 0), ([], []), [(.ofNat 0, .ofNat 100000, 0, .ofNat 0)])], [(false, (0, 0, .ofNat 0))])
/-- GridLawsModel.later, row 5 -/
def zc_l2549 : zC := (287, 5, 1, [(3, 88, .ofNat 0), (0, 0, .ofNat 819)], ([(88, (0, 0, .ofNat 28), (1, 0, .ofNat 0)), (1049, (0, 0, .ofNat 819), (0, 0, .ofNat 0))], []), [(.ofNat 0, .ofNat 100000, 0, .ofNat 0)], [], [(some (0, 0, .negSucc 0), ([], []), [(.ofNat 0, .ofNat 100000, 0, .ofNat 0)])], [(false, (0, 0, .ofNat 0))])
/-- GridLawsModel.later, row 5 -/
def zc_l2550 : zC := (287, 5, 1, [(3, 88, .ofNat 0), (0, 0, .ofNat 820)], ([(88, (0, 0, .ofNat 28), (1, 0, .ofNat 0)), (1049, (0, 0, .ofNat 820), (0, 0, .ofNat 0))], []), [(.ofNat 0, .ofNat 100000, 0, .ofNat 0)], [], [(some (0, 0, .negSucc 0), ([], []), [(.ofNat 0, .ofNat 100000, 0, .ofNat 0)])], [(false, (0, 0, .ofNat 0))])
/-- GridLawsModel.later, row 5 -/
def zc_l2551 : zC := (287, 5, 1, [(3, 88, .ofNat 0), (0, 0, .ofNat 821)], ([(88, (0, 0, .ofNat 28), (1, 0, .ofNat 0)), (1049, (0, 0, .ofNat 821), (0, 0, .ofNat 0))], []), [(.ofNat 0, .ofNat 100000, 0, .ofNat 0)], [], [(some (0, 0, .negSucc 0), ([], []), [(.ofNat 0, .ofNat 100000, 0, .ofNat 0)])], [(false, (0, 0, .ofNat 0))])
/-- GridLawsModel.later, row 5 -/
def zc_l2552 : zC := (287, 5, 1, [(3, 88, .ofNat 0), (0, 0, .ofNat 822)], ([(88, (0, 0, .ofNat 28), (1, 0, .ofNat 0)), (1049, (0, 0, .ofNat 822), (0, 0, .ofNat 0))], []), [(.ofNat 0, .ofNat 100000, 0, .ofNat 0)], [], [(some (0, 0, .negSucc 0), ([], []), [(.ofNat 0, .ofNat 100000, 0, .ofNat 0)])], [(false, (0, 0, .ofNat 0))])
/-- GridLawsModel.later, row 5 -/
def zc_l2553 : zC := (287, 5, 1, [(3, 88, .ofNat 0), (0, 0, .ofNat 823)], ([(88, (0, 0, .ofNat 28), (1, 0, .ofNat 0)), (1049, (0, 0, .ofNat 823), (0, 0, .ofNat 0))], []), [(.ofNat 0, .ofNat 100000, 0, .ofNat 0)], [], [(some (0, 0, .negSucc 0), ([], []), [(.ofNat 0, .ofNat 100000, 0, .ofNat 0)])], [(false, (0, 0, .ofNat 0))])
/-- GridLawsModel.later, row 5 -/
def zc_l2554 : zC := (287, 5, 1, [(3, 88, .ofNat 0), (0, 0, .ofNat 824)], ([(88, (0, 0, .ofNat 28), (1, 0, .ofNat 0)), (1049, (0, 0, .ofNat 824), (0, 0, .ofNat 0))], []), [(.ofNat 0, .ofNat 100000, 0, .ofNat 0)], [], [(some (0, 0, .negSucc 0), ([], []), [(.ofNat 0, .ofNat 100000, 0, .ofNat 0)])], [(false, (0, 0, .ofNat 0))])
/-- GridLawsModel.later, row 5 -/
def zc_l2555 : zC := (287, 5, 1, [(3, 88, .ofNat 0), (0, 0, .ofNat 825)], ([(88, (0, 0, .ofNat 28), (1, 0, .ofNat 0)), (1049, (0, 0, .ofNat 825), (0, 0, .ofNat 0))], []), [(.ofNat 0, .ofNat 100000, 0, .ofNat 0)], [], [(some (0, 0, .negSucc 0), ([], []), [(.ofNat 0, .ofNat 100000, 0, .ofNat 0)])], [(false, (0, 0, .ofNat 0))])
/-- GridLawsModel.later, row 5 -/
def zc_l2556 : zC := (287, 5, 1, [(3, 88, .ofNat 0), (0, 0, .ofNat 826)], ([(88, (0, 0, .ofNat 28), (1, 0, .ofNat 0)), (1049, (0, 0, .ofNat 826), (0, 0, .ofNat 0))], []), [(.ofNat 0, .ofNat 100000, 0, .ofNat 0)], [], [(some (0, 0, .negSucc 0), ([], []), [(.ofNat 0, .ofNat 100000, 0, .ofNat 0)])], [(false, (0, 0, .ofNat 0))])
/-- GridLawsModel.later, row 5 -/
def zc_l2557 : zC := (287, 5, 1, [(3, 88, .ofNat 0), (0, 0, .ofNat 827)], ([(88, (0, 0, .ofNat 28), (1, 0, .ofNat 0)), (1049, (0, 0, .ofNat 827), (0, 0, .ofNat 0))], []), [(.ofNat 0, .ofNat 100000, 0, .ofNat 0)], [], [(some (0, 0, .negSucc 0), ([], []), [(.ofNat 0, .ofNat 100000, 0, .ofNat 0)])], [(false, (0, 0, .ofNat 0))])
/-- GridLawsModel.later, row 5 -/
def zc_l2558 : zC := (287, 5, 1, [(3, 88, .ofNat 0), (0, 0, .ofNat 828)], ([(88, (0, 0, .ofNat 28), (1, 0, .ofNat 0)), (1049, (0, 0, .ofNat 828), (0, 0, .ofNat 0))], []), [(.ofNat 0, .ofNat 100000, 0, .ofNat 0)], [], [(some (0, 0, .negSucc 0), ([], []), [(.ofNat 0, .ofNat 100000, 0, .ofNat 0)])], [(false, (0, 0, .ofNat 0))])
/-- GridLawsModel.later, row 5 -/
def zc_l2559 : zC := (287, 5, 1, [(3, 88, .ofNat 0), (0, 0, .ofNat 829)], ([(88, (0, 0, .ofNat 28), (1, 0, .ofNat 0)), (1049, (0, 0, .ofNat 829), (0, 0, .ofNat 0))], []), [(.ofNat 0, .ofNat 100000, 0, .ofNat 0)], [], [(some (0, 0, .negSucc 0), ([], []), [(.ofNat 0, .ofNat 100000, 0, .ofNat 0)])], [(false, (0, 0, .ofNat 0))])
/-- GridLawsModel.later, row 5 -/
def zc_l2560 : zC := (287, 5, 1, [(3, 88, .ofNat 0), (0, 0, .ofNat 830)], ([(88, (0, 0, .ofNat 28), (1, 0, .ofNat 0)), (1049, (0, 0, .ofNat 830), (0, 0, .ofNat 0))], []), [(.ofNat 0, .ofNat 100000, 0, .ofNat 0)], [], [(some (0, 0, .negSucc 0), ([], []), [(.ofNat 0, .ofNat 100000, 0, .ofNat 0)])], [(false, (0, 0, .ofNat 0))])
/-- GridLawsModel.later, row 5 -/
def zc_l2561 : zC := (287, 5, 1, [(3, 88, .ofNat 0), (0, 0, .ofNat 831)], ([(88, (0, 0, .ofNat 28), (1, 0, .ofNat 0)), (1049, (0, 0, .ofNat 831), (0, 0, .ofNat 0))], []), [(.ofNat 0, .ofNat 100000, 0, .ofNat 0)], [], [(some (0, 0, .negSucc 0), ([], []), [(.ofNat 0, .ofNat 100000, 0, .ofNat 0)])], [(false, (0, 0, .ofNat 0))])
/-- GridLawsModel.later, row 5 -/
def zc_l2562 : zC := (287, 5, 1, [(3, 88, .ofNat 0), (0, 0, .ofNat 832)], ([(88, (0, 0, .ofNat 28), (1, 0, .ofNat 0)), (1049, (0, 0, .ofNat 832), (0, 0, .ofNat 0))], []), [(.ofNat 0, .ofNat 100000, 0, .ofNat 0)], [], [(some (0, 0, .negSucc 0), ([], []), [(.ofNat 0, .ofNat 100000, 0, .ofNat 0)])], [(false, (0, 0, .ofNat 0))])
/-- GridLawsModel.later, row 5 -/
def zc_l2563 : zC := (287, 5, 1, [(3, 88, .ofNat 0), (0, 0, .ofNat 833)], ([(88, (0, 0, .ofNat 28), (1, 0, .ofNat 0)), (1049, (0, 0, .ofNat 833), (0, 0, .ofNat 0))], []), [(.ofNat 0, .ofNat 100000, 0, .ofNat 0)], [], [(some (0, 0, .negSucc 0), ([], []), [(.ofNat 0, .ofNat 100000, 0, .ofNat 0)])], [(false, (0, 0, .ofNat 0))])
/-- GridLawsModel.later, row 5 -/
def zc_l2564 : zC := (287, 5, 1, [(3, 88, .ofNat 0), (0, 0, .ofNat 834)], ([(88, (0, 0, .ofNat 28), (1, 0, .ofNat 0)), (1049, (0, 0, .ofNat 834), (0, 0, .ofNat 0))], []), [(.ofNat 0, .ofNat 100000, 0, .ofNat 0)], [], [(some (0, 0, .negSucc 0), ([], []), [(.ofNat 0, .ofNat 100000, 0, .ofNat 0)])], [(false, (0, 0, .ofNat 0))])
/-- GridLawsModel.later, row 5 -/
def zc_l2565 : zC := (287, 5, 1, [(3, 88, .ofNat 0), (0, 0, .ofNat 835)], ([(88, (0, 0, .ofNat 28), (1, 0, .ofNat 0)), (1049, (0, 0, .ofNat 835), (0, 0, .ofNat 0))], []), [(.ofNat 0, .ofNat 100000, 0, .ofNat 0)], [], [(some (0, 0, .negSucc 0), ([], []), [(.ofNat 0, .ofNat 100000, 0, .ofNat 0)])], [(false, (0, 0, .ofNat 0))])
/-- GridLawsModel.later, row 5 -/
def zc_l2566 : zC := (287, 5, 1, [(3, 88, .ofNat 0), (0, 0, .ofNat 836)], ([(88, (0, 0, .ofNat 28), (1, 0, .ofNat 0)), (1049, (0, 0, .ofNat 836), (0, 0, .ofNat 0))], []), [(.ofNat 0, .ofNat 100000, 0, .ofNat 0)], [], [(some (0, 0, .negSucc 0), ([], []), [(.ofNat 0, .ofNat 100000, 0, .ofNat 0)])], [(false, (0, 0, .ofNat 0))])
/-- GridLawsModel.later, row 5 -/
def zc_l2567 : zC := (287, 5, 1, [(3, 88, .ofNat 0), (0, 0, .ofNat 837)], ([(88, (0, 0, .ofNat 28), (1, 0, .ofNat 0)), (1049, (0, 0, .ofNat 837), (0, 0, .ofNat 0))], []), [(.ofNat 0, .ofNat 100000, 0, .ofNat 0)], [], [(some (0, 0, .negSucc 0), ([], []), [(.ofNat 0, .ofNat 100000, 0, .ofNat 0)])], [(false, (0, 0, .ofNat 0))])
/-- GridLawsModel.later, row 5 -/
def zc_l2568 : zC := (287, 5, 1, [(3, 88, .ofNat 0), (0, 0, .ofNat 838)], ([(88, (0, 0, .ofNat 28), (1, 0, .ofNat 0)), (1049, (0, 0, .ofNat 838), (0, 0, .ofNat 0))], []), [(.ofNat 0, .ofNat 100000, 0, .ofNat 0)], [], [(some (0, 0, .negSucc 0), ([], []), [(.ofNat 0, .ofNat 100000, 0, .ofNat 0)])], [(false, (0, 0, .ofNat 0))])
/-- GridLawsModel.later, row 5 -/
def zc_l2569 : zC := (287, 5, 1, [(3, 88, .ofNat 0), (0, 0, .ofNat 839)], ([(88, (0, 0, .ofNat 28), (1, 0, .ofNat 0)), (1049, (0, 0, .ofNat 839), (0, 0, .ofNat 0))], []), [(.ofNat 0, .ofNat 100000, 0, .ofNat 0)], [], [(some (0, 0, .negSucc 0), ([], []), [(.ofNat 0, .ofNat 100000, 0, .ofNat 0)])], [(false, (0, 0, .ofNat 0))])
/-- GridLawsModel.later, row 5 -/
def zc_l2570 : zC := (287, 5, 1, [(3, 88, .ofNat 0), (0, 0, .ofNat 840)], ([(88, (0, 0, .ofNat 28), (1, 0, .ofNat 0)), (1049, (0, 0, .ofNat 840), (0, 0, .ofNat 0))], []), [(.ofNat 0, .ofNat 100000, 0, .ofNat 0)], [], [(some (0, 0, .negSucc 0), ([], []), [(.ofNat 0, .ofNat 100000, 0, .ofNat 0)])], [(false, (0, 0, .ofNat 0))])
/-- GridLawsModel.later, row 5 -/
def zc_l2571 : zC := (287, 5, 1, [(3, 88, .ofNat 0), (0, 0, .ofNat 841)], ([(88, (0, 0, .ofNat 28), (1, 0, .ofNat 0)), (1049, (0, 0, .ofNat 841), (0, 0, .ofNat 0))], []), [(.ofNat 0, .ofNat 100000, 0, .ofNat 0)], [], [(some (0, 0, .negSucc 0), ([], []), [(.ofNat 0, .ofNat 100000, 0, .ofNat 0)])], [(false, (0, 0, .ofNat 0))])
/-- GridLawsModel.later, row 5 -/
def zc_l2572 : zC := (287, 5, 1, [(3, 88, .ofNat 0), (0, 0, .ofNat 842)], ([(88, (0, 0, .ofNat 28), (1, 0, .ofNat 0)), (1049, (0, 0, .ofNat 842), (0, 0, .ofNat 0))], []), [(.ofNat 0, .ofNat 100000, 0, .ofNat 0)], [], [(some (0, 0, .negSucc 0), ([], []), [(.ofNat 0, .ofNat 100000, 0, .ofNat 0)])], [(false, (0, 0, .ofNat 0))])
/-- GridLawsModel.later, row 5 -/
def zc_l2573 : zC := (287, 5, 1, [(3, 88, .ofNat 0), (0, 0, .ofNat 843)], ([(88, (0, 0, .ofNat 28), (1, 0, .ofNat 0)), (1049, (0, 0, .ofNat 843), (0, 0, .ofNat 0))], []), [(.ofNat 0, .ofNat 100000, 0, .ofNat 0)], [], [(some (0, 0, .negSucc 0), ([], []), [(.ofNat 0, .ofNat 100000, 0, .ofNat 0)])], [(false, (0, 0, .ofNat 0))])
/-- GridLawsModel.later, row 5 -/
def zc_l2574 : zC := (287, 5, 1, [(3, 88, .ofNat 0), (0, 0, .ofNat 844)], ([(88, (0, 0, .ofNat 28), (1, 0, .ofNat 0)), (1049, (0, 0, .ofNat 844), (0, 0, .ofNat 0))], []), [(.ofNat 0, .ofNat 100000, 0, .ofNat 0)], [], [(some (0, 0, .negSucc 0), ([], []), [(.ofNat 0, .ofNat 100000, 0, .ofNat 0)])], [(false, (0, 0, .ofNat 0))])
/-- GridLawsModel.later, row 5 -/
def zc_l2575 : zC := (287, 5, 1, [(3, 88, .ofNat 0), (0, 0, .ofNat 845)], ([(88, (0, 0, .ofNat 28), (1, 0, .ofNat 0)), (1049, (0, 0, .ofNat 845), (0, 0, .ofNat 0))], []), [(.ofNat 0, .ofNat 100000, 0, .ofNat 0)], [], [(some (0, 0, .negSucc 0), ([], []), [(.ofNat 0, .ofNat 100000, 0, .ofNat 0)])], [(false, (0, 0, .ofNat 0))])
/-- GridLawsModel.later, row 5 -/
def zc_l2576 : zC := (287, 5, 1, [(3, 88, .ofNat 0), (0, 0, .ofNat 846)], ([(88, (0, 0, .ofNat 28), (1, 0, .ofNat 0)), (1049, (0, 0, .ofNat 846), (0, 0, .ofNat 0))], []), [(.ofNat 0, .ofNat 100000, 0, .ofNat 0)], [], [(some (0, 0, .negSucc 0), ([], []), [(.ofNat 0, .ofNat 100000, 0, .ofNat 0)])], [(false, (0, 0, .ofNat 0))])
/-- GridLawsModel.later, row 5 -/
def zc_l2577 : zC := (287, 5, 1, [(3, 88, .ofNat 0), (0, 0, .ofNat 847)], ([(88, (0, 0, .ofNat 28), (1, 0, .ofNat 0)), (1049, (0, 0, .ofNat 847), (0, 0, .ofNat 0))], []), [(.ofNat 0, .ofNat 100000, 0, .ofNat 0)], [], [(some (0, 0, .negSucc 0), ([], []), [(.ofNat 0, .ofNat 100000, 0, .ofNat 0)])], [(false, (0, 0, .ofNat 0))])
/-- GridLawsModel.later, row 5 -/
def zc_l2578 : zC := (287, 5, 1, [(3, 88, .ofNat 0), (0, 0, .ofNat 848)], ([(88, (0, 0, .ofNat 28), (1, 0, .ofNat 0)), (1049, (0, 0, .ofNat 848), (0, 0, .ofNat 0))], []), [(.ofNat 0, .ofNat 100000, 0, .ofNat 0)], [], [(some (0, 0, .negSucc 0), ([], []), [(.ofNat 0, .ofNat 100000, 0, .ofNat 0)])], [(false, (0, 0, .ofNat 0))])
/-- GridLawsModel.later, row 5 -/
def zc_l2579 : zC := (287, 5, 1, [(3, 88, .ofNat 0), (0, 0, .ofNat 849)], ([(88, (0, 0, .ofNat 28), (1, 0, .ofNat 0)), (1049, (0, 0, .ofNat 849), (0, 0, .ofNat 0))], []), [(.ofNat 0, .ofNat 100000, 0, .ofNat 0)], [], [(some (0, 0, .negSucc 0), ([], []), [(.ofNat 0, .ofNat 100000, 0, .ofNat 0)])], [(false, (0, 0, .ofNat 0))])
/-- GridLawsModel.later, row 5 -/
def zc_l2580 : zC := (287, 5, 1, [(3, 88, .ofNat 0), (0, 0, .ofNat 850)], ([(88, (0, 0, .ofNat 28), (1, 0, .ofNat 0)), (1049, (0, 0, .ofNat 850), (0, 0, .ofNat 0))], []), [(.ofNat 0, .ofNat 100000, 0, .ofNat 0)], [], [(some (0, 0, .negSucc 0), ([], []), [(.ofNat 0, .ofNat 100000, 0, .ofNat 0)])], [(false, (0, 0, .ofNat 0))])
/-- GridLawsModel.later, row 5 -/
def zc_l2581 : zC := (287, 5, 1, [(3, 88, .ofNat 0), (0, 0, .ofNat 851)], ([(88, (0, 0, .ofNat 28), (1, 0, .ofNat 0)), (1049, (0, 0, .ofNat 851), (0, 0, .ofNat 0))], []), [(.ofNat 0, .ofNat 100000, 0, .ofNat 0)], [], [(some (0, 0, .negSucc 0), ([], []), [(.ofNat 0, .ofNat 100000, 0, .ofNat 0)])], [(false, (0, 0, .ofNat 0))])
/-- GridLawsModel.later, row 5 -/
def zc_l2582 : zC := (287, 5, 1, [(3, 88, .ofNat 0), (0, 0, .ofNat 852)], ([(88, (0, 0, .ofNat 28), (1, 0, .ofNat 0)), (1049, (0, 0, .ofNat 852), (0, 0, .ofNat 0))], []), [(.ofNat 0, .ofNat 100000, 0, .ofNat 0)], [], [(some (0, 0, .negSucc 0), ([], []), [(.ofNat 0, .ofNat 100000, 0, .ofNat 0)])], [(false, (0, 0, .ofNat 0))])
/-- GridLawsModel.later, row 5 -/
def zc_l2583 : zC := (287, 5, 1, [(3, 88, .ofNat 0), (0, 0, .ofNat 853)], ([(88, (0, 0, .ofNat 28), (1, 0, .ofNat 0)), (1049, (0, 0, .ofNat 853), (0, 0, .ofNat 0))], []), [(.ofNat 0, .ofNat 100000, 0, .ofNat 0)], [], [(some (0, 0, .negSucc 0), ([], []), [(.ofNat 0, .ofNat 100000, 0, .ofNat 0)])], [(false, (0, 0, .ofNat 0))])
/-- GridLawsModel.later, row 5 -/
def zc_l2584 : zC := (287, 5, 1, [(3, 88, .ofNat 0), (0, 0, .ofNat 854)], ([(88, (0, 0, .ofNat 28), (1, 0, .ofNat 0)), (1049, (0, 0, .ofNat 854), (0, 0, .ofNat 0))], []), [(.ofNat 0, .ofNat 100000, 0, .ofNat 0)], [], [(some (0, 0, .negSucc 0), ([], []), [(.ofNat 0, .ofNat 100000, 0, .ofNat 0)])], [(false, (0, 0, .ofNat 0))])
/-- GridLawsModel.later, row 5 -/
def zc_l2585 : zC := (287, 5, 1, [(3, 88, .ofNat 0), (0, 0, .ofNat 855)], ([(88, (0, 0, .ofNat 28), (1, 0, .ofNat 0)), (1049, (0, 0, .ofNat 855), (0, 0, .ofNat 0))], []), [(.ofNat 0, .ofNat 100000, 0, .ofNat 0)], [], [(some (0, 0, .negSucc 0), ([], []), [(.ofNat 0, .ofNat 100000, 0, .ofNat 0)])], [(false, (0, 0, .ofNat 0))])
/-- GridLawsModel.later, row 5 -/
def zc_l2586 : zC := (287, 5, 1, [(3, 88, .ofNat 0), (0, 0, .ofNat 856)], ([(88, (0, 0, .ofNat 28), (1, 0, .ofNat 0)), (1049, (0, 0, .ofNat 856), (0, 0, .ofNat 0))], []), [(.ofNat 0, .ofNat 100000, 0, .ofNat 0)], [], [(some (0, 0, .negSucc 0), ([], []), [(.ofNat 0, .ofNat 100000, 0, .ofNat 0)])], [(false, (0, 0, .ofNat 0))])
/-- GridLawsModel.later, row 5 -/
def zc_l2587 : zC := (287, 5, 1, [(3, 88, .ofNat 0), (0, 0, .ofNat 857)], ([(88, (0, 0, .ofNat 28), (1, 0, .ofNat 0)), (1049, (0, 0, .ofNat 857), (0, 0, .ofNat 0))], []), [(.ofNat 0, .ofNat 100000, 0, .ofNat 0)], [], [(some (0, 0, .negSucc 0), ([], []), [(.ofNat 0, .ofNat 100000, 0, .ofNat 0)])], [(false, (0, 0, .ofNat 0))])
/-- GridLawsModel.later, row 5 -/
def zc_l2588 : zC := (287, 5, 1, [(3, 88, .ofNat 0), (0, 0, .ofNat 858)], ([(88, (0, 0, .ofNat 28), (1, 0, .ofNat 0)), (1049, (0, 0, .ofNat 858), (0, 0, .ofNat 0))], []), [(.ofNat 0, .ofNat 100000, 0, .ofNat 0)], [], [(some (0, 0, .negSucc 0), ([], []), [(.ofNat 0, .ofNat 100000, 0, .ofNat 0)])], [(false, (0, 0, .ofNat 0))])
/-- GridLawsModel.later, row 5 -/
def zc_l2589 : zC := (287, 5, 1, [(3, 88, .ofNat 0), (0, 0, .ofNat 859)], ([(88, (0, 0, .ofNat 28), (1, 0, .ofNat 0)), (1049, (0, 0, .ofNat 859), (0, 0, .ofNat 0))], []), [(.ofNat 0, .ofNat 100000, 0, .ofNat 0)], [], [(some (0, 0, .negSucc 0), ([], []), [(.ofNat 0, .ofNat 100000, 0, .ofNat 0)])], [(false, (0, 0, .ofNat 0))])
/-- GridLawsModel.later, row 5 -/
def zc_l2590 : zC := (287, 5, 1, [(3, 88, .ofNat 0), (0, 0, .ofNat 860)], ([(88, (0, 0, .ofNat 28), (1, 0, .ofNat 0)), (1049, (0, 0, .ofNat 860), (0, 0, .ofNat 0))], []), [(.ofNat 0, .ofNat 100000, 0, .ofNat 0)], [], [(some (0, 0, .negSucc 0), ([], []), [(.ofNat 0, .ofNat 100000, 0, .ofNat 0)])], [(false, (0, 0, .ofNat 0))])
/-- GridLawsModel.later, row 5 -/
def zc_l2591 : zC := (287, 5, 1, [(3, 88, .ofNat 0), (0, 0, .ofNat 861)], ([(88, (0, 0, .ofNat 28), (1, 0, .ofNat 0)), (1049, (0, 0, .ofNat 861), (0, 0, .ofNat 0))], []), [(.ofNat 0, .ofNat 100000, 0, .ofNat 0)], [], [(some (0, 0, .negSucc 0), ([], []), [(.ofNat 0, .ofNat 100000, 0, .ofNat 0)])], [(false, (0, 0, .ofNat 0))])
/-- GridLawsModel.later, row 5 -/
def zc_l2592 : zC := (287, 5, 1, [(3, 88, .ofNat 0), (0, 0, .ofNat 862)], ([(88, (0, 0, .ofNat 28), (1, 0, .ofNat 0)), (1049, (0, 0, .ofNat 862), (0, 0, .ofNat 0))], []), [(.ofNat 0, .ofNat 100000, 0, .ofNat 0)], [], [(some (0, 0, .negSucc 0), ([], []), [(.ofNat 0, .ofNat 100000, 0, .ofNat 0)])], [(false, (0, 0, .ofNat 0))])
/-- GridLawsModel.later, row 5 -/
def zc_l2593 : zC := (287, 5, 1, [(3, 88, .ofNat 0), (0, 0, .ofNat 863)], ([(88, (0, 0, .ofNat 28), (1, 0, .ofNat 0)), (1049, (0, 0, .ofNat 863), (0, 0, .ofNat 0))], []), [(.ofNat 0, .ofNat 100000, 0, .ofNat 0)], [], [(some (0, 0, .negSucc 0), ([], []), [(.ofNat 0, .ofNat 100000, 0, .ofNat 0)])], [(false, (0, 0, .ofNat 0))])
/-- GridLawsModel.later, row 5 -/
def zc_l2594 : zC := (287, 5, 1, [(3, 88, .ofNat 0), (0, 0, .ofNat 864)], ([(88, (0, 0, .ofNat 28), (1, 0, .ofNat 0)), (1049, (0, 0, .ofNat 864), (0, 0, .ofNat 0))], []), [(.ofNat 0, .ofNat 100000, 0, .ofNat 0)], [], [(some (0, 0, .negSucc 0), ([], []), [(.ofNat 0, .ofNat 100000, 0, .ofNat 0)])], [(false, (0, 0, .ofNat 0))])
/-- GridLawsModel.later, row 5 -/
def zc_l2595 : zC := (287, 5, 1, [(3, 88, .ofNat 0), (0, 0, .ofNat 865)], ([(88, (0, 0, .ofNat 28), (1, 0, .ofNat 0)), (1049, (0, 0, .ofNat 865), (0, 0, .ofNat 0))], []), [(.ofNat 0, .ofNat 100000, 0, .ofNat 0)], [], [(some (0, 0, .negSucc 0), ([], []), [(.ofNat 0, .ofNat 100000, 0, .ofNat 0)])], [(false, (0, 0, .ofNat 0))])
/-- GridLawsModel.later, row 5 -/
def zc_l2596 : zC := (287, 5, 1, [(3, 88, .ofNat 0), (0, 0, .ofNat 866)], ([(88, (0, 0, .ofNat 28), (1, 0, .ofNat 0)), (1049, (0, 0, .ofNat 866), (0, 0, .ofNat 0))], []), [(.ofNat 0, .ofNat 100000, 0, .ofNat 0)], [], [(some (0, 0, .negSucc 0), ([], []), [(.ofNat 0, .ofNat 100000, 0, .ofNat 0)])], [(false, (0, 0, .ofNat 0))])
/-- GridLawsModel.later, row 5 -/
def zc_l2597 : zC := (287, 5, 1, [(3, 88, .ofNat 0), (0, 0, .ofNat 867)], ([(88, (0, 0, .ofNat 28), (1, 0, .ofNat 0)), (1049, (0, 0, .ofNat 867), (0, 0, .ofNat 0))], []), [(.ofNat 0, .ofNat 100000, 0, .ofNat 0)], [], [(some (0, 0, .negSucc 0), ([], []), [(.ofNat 0, .ofNat 100000, 0, .ofNat 0)])], [(false, (0, 0, .ofNat 0))])
/-- GridLawsModel.later, row 5 -/
def zc_l2598 : zC := (287, 5, 1, [(3, 88, .ofNat 0), (0, 0, .ofNat 868)], ([(88, (0, 0, .ofNat 28), (1, 0, .ofNat 0)), (1049, (0, 0, .ofNat 868), (0, 0, .ofNat 0))], []), [(.ofNat 0, .ofNat 100000, 0, .ofNat 0)], [], [(some (0, 0, .negSucc 0), ([], []), [(.ofNat 0, .ofNat 100000, 0, .ofNat 0)])], [(false, (0, 0, .ofNat 0))])
/-- GridLawsModel.later, row 5 -/
def zc_l2599 : zC := (287, 5, 1, [(3, 88, .ofNat 0), (0, 0, .ofNat 869)], ([(88, (0, 0, .ofNat 28), (1, 0, .ofNat 0)), (1049, (0, 0, .ofNat 869), (0, 0, .ofNat 0))], []), [(.ofNat 0, .ofNat 100000, 0, .ofNat 0)], [], [(some (0, 0, .negSucc 0), ([], []), [(.ofNat 0, .ofNat 100000, 0, .ofNat 0)])], [(false, (0, 0, .ofNat 0))])
/-- GridLawsModel.later, row 5 -/
def zc_l2600 : zC := (287, 5, 1, [(3, 88, .ofNat 0), (0, 0, .ofNat 870)], ([(88, (0, 0, .ofNat 28), (1, 0, .ofNat 0)), (1049, (0, 0, .ofNat 870), (0, 0, .ofNat 0))], []), [(.ofNat 0, .ofNat 100000, 0, .ofNat 0)], [], [(some (0, 0, .negSucc 0), ([], []), [(.ofNat 0, .ofNat 100000, 0, .ofNat 0)])], [(false, (0, 0, .ofNat 0))])
/-- GridLawsModel.later, row 5 -/
def zc_l2601 : zC := (287, 5, 1, [(3, 88, .ofNat 0), (0, 0, .ofNat 871)], ([(88, (0, 0, .ofNat 28), (1, 0, .ofNat 0)), (1049, (0, 0, .ofNat 871), (0, 0, .ofNat 0))], []), [(.ofNat 0, .ofNat 100000, 0, .ofNat 0)], [], [(some (0, 0, .negSucc 0), ([], []), [(.ofNat 0, .ofNat 100000, 0, .ofNat 0)])], [(false, (0, 0, .ofNat 0))])
/-- GridLawsModel.later, row 5 -/
def zc_l2602 : zC := (287, 5, 1, [(3, 88, .ofNat 0), (0, 0, .ofNat 872)], ([(88, (0, 0, .ofNat 28), (1, 0, .ofNat 0)), (1049, (0, 0, .ofNat 872), (0, 0, .ofNat 0))], []), [(.ofNat 0, .ofNat 100000, 0, .ofNat 0)], [], [(some (0, 0, .negSucc 0), ([], []), [(.ofNat 0, .ofNat 100000, 0, .ofNat 0)])], [(false, (0, 0, .ofNat 0))])
/-- GridLawsModel.later, row 5 -/
def zc_l2603 : zC := (287, 5, 1, [(3, 88, .ofNat 0), (0, 0, .ofNat 873)], ([(88, (0, 0, .ofNat 28), (1, 0, .ofNat 0)), (1049, (0, 0, .ofNat 873), (0, 0, .ofNat 0))], []), [(.ofNat 0, .ofNat 100000, 0, .ofNat 0)], [], [(some (0, 0, .negSucc 0), ([], []), [(.ofNat 0, .ofNat 100000, 0, .ofNat 0)])], [(false, (0, 0, .ofNat 0))])
/-- GridLawsModel.later, row 5 -/
def zc_l2604 : zC := (287, 5, 1, [(3, 88, .ofNat 0), (0, 0, .ofNat 874)], ([(88, (0, 0, .ofNat 28), (1, 0, .ofNat 0)), (1049, (0, 0, .ofNat 874), (0, 0, .ofNat 0))], []), [(.ofNat 0, .ofNat 100000, 0, .ofNat 0)], [], [(some (0, 0, .negSucc 0), ([], []), [(.ofNat 0, .ofNat 100000, 0, .ofNat 0)])], [(false, (0, 0, .ofNat 0))])
/-- GridLawsModel.later, row 5 -/
def zc_l2605 : zC := (287, 5, 1, [(3, 88, .ofNat 0), (0, 0, .ofNat 875)], ([(88, (0, 0, .ofNat 28), (1, 0, .ofNat 0)), (1049, (0, 0, .ofNat 875), (0, 0, .ofNat 0))], []), [(.ofNat 0, .ofNat 100000, 0, .ofNat 0)], [], [(some (0, 0, .negSucc 0), ([], []), [(.ofNat 0, .ofNat 100000, 0, .ofNat 0)])], [(false, (0, 0, .ofNat 0))])
/-- GridLawsModel.later, row 5 -/
def zc_l2606 : zC := (287, 5, 1, [(3, 88, .ofNat 0), (0, 0, .ofNat 876)], ([(88, (0, 0, .ofNat 28), (1, 0, .ofNat 0)), (1049, (0, 0, .ofNat 876), (0, 0, .ofNat 0))], []), [(.ofNat 0, .ofNat 100000, 0, .ofNat 0)], [], [(some (0, 0, .negSucc 0), ([], []), [(.ofNat 0, .ofNat 100000, 0, .ofNat 0)])], [(false, (0, 0, .ofNat 0))])
/-- GridLawsModel.later, row 5 -/
def zc_l2607 : zC := (287, 5, 1, [(3, 88, .ofNat 0), (0, 0, .ofNat 877)], ([(88, (0, 0, .ofNat 28), (1, 0, .ofNat 0)), (1049, (0, 0, .ofNat 877), (0, 0, .ofNat 0))], []), [(.ofNat 0, .ofNat 100000, 0, .ofNat 0)], [], [(some (0, 0, .negSucc 0), ([], []), [(.ofNat 0, .ofNat 100000, 0, .ofNat 0)])], [(false, (0, 0, .ofNat 0))])
/-- GridLawsModel.later, row 5 -/
def zc_l2608 : zC := (287, 5, 1, [(3, 88, .ofNat 0), (0, 0, .ofNat 878)], ([(88, (0, 0, .ofNat 28), (1, 0, .ofNat 0)), (1049, (0, 0, .ofNat 878), (0, 0, .ofNat 0))], []), [(.ofNat 0, .ofNat 100000, 0, .ofNat 0)], [], [(some (0, 0, .negSucc 0), ([], []), [(.ofNat 0, .ofNat 100000, 0, .ofNat 0)])], [(false, (0, 0, .ofNat 0))])
/-- GridLawsModel.later, row 5 -/
def zc_l2609 : zC := (287, 5, 1, [(3, 88, .ofNat 0), (0, 0, .ofNat 879)], ([(88, (0, 0, .ofNat 28), (1, 0, .ofNat 0)), (1049, (0, 0, .ofNat 879), (0, 0, .ofNat 0))], []), [(.ofNat 0, .ofNat 100000, 0, .ofNat 0)], [], [(some (0, 0, .negSucc 0), ([], []), [(.ofNat 0, .ofNat 100000, 0, .ofNat 0)])], [(false, (0, 0, .ofNat 0))])
/-- GridLawsModel.later, row 5 -/
def zc_l2610 : zC := (287, 5, 1, [(3, 88, .ofNat 0), (0, 0, .ofNat 880)], ([(88, (0, 0, .ofNat 28), (1, 0, .ofNat 0)), (1049, (0, 0, .ofNat 880), (0, 0, .ofNat 0))], []), [(.ofNat 0, .ofNat 100000, 0, .ofNat 0)], [], [(some (0, 0, .negSucc 0), ([], []), [(.ofNat 0, .ofNat 100000, 0, .ofNat 0)])], [(false, (0, 0, .ofNat 0))])
/-- GridLawsModel.later, row 5 -/
def zc_l2611 : zC := (287, 5, 1, [(3, 88, .ofNat 0), (0, 0, .ofNat 881)], ([(88, (0, 0, .ofNat 28), (1, 0, .ofNat 0)), (1049, (0, 0, .ofNat 881), (0, 0, .ofNat 0))], []), [(.ofNat 0, .ofNat 100000, 0, .ofNat 0)], [], [(some (0, 0, .negSucc 0), ([], []), [(.ofNat 0, .ofNat 100000, 0, .ofNat 0)])], [(false, (0, 0, .ofNat 0))])
/-- GridLawsModel.later, row 5 -/
def zc_l2612 : zC := (287, 5, 1, [(3, 88, .ofNat 0), (0, 0, .ofNat 882)], ([(88, (0, 0, .ofNat 28), (1, 0, .ofNat 0)), (1049, (0, 0, .ofNat 882), (0, 0, .ofNat 0))], []), [(.ofNat 0, .ofNat 100000, 0, .ofNat 0)], [], [(some (0, 0, .negSucc 0), ([], []), [(.ofNat 0, .ofNat 100000, 0, .ofNat 0)])], [(false, (0, 0, .ofNat 0))])
/-- GridLawsModel.later, row 5 -/
def zc_l2613 : zC := (287, 5, 1, [(3, 88, .ofNat 0), (0, 0, .ofNat 883)], ([(88, (0, 0, .ofNat 28), (1, 0, .ofNat 0)), (1049, (0, 0, .ofNat 883), (0, 0, .ofNat 0))], []), [(.ofNat 0, .ofNat 100000, 0, .ofNat 0)], [], [(some (0, 0, .negSucc 0), ([], []), [(.ofNat 0, .ofNat 100000, 0, .ofNat 0)])], [(false, (0, 0, .ofNat 0))])
/-- GridLawsModel.later, row 5 -/
def zc_l2614 : zC := (287, 5, 1, [(3, 88, .ofNat 0), (0, 0, .ofNat 884)], ([(88, (0, 0, .ofNat 28), (1, 0, .ofNat 0)), (1049, (0, 0, .ofNat 884), (0, 0, .ofNat 0))], []), [(.ofNat 0, .ofNat 100000, 0, .ofNat 0)], [], [(some (0, 0, .negSucc 0), ([], []), [(.ofNat 0, .ofNat 100000, 0, .ofNat 0)])], [(false, (0, 0, .ofNat 0))])
/-- GridLawsModel.later, row 5 -/
def zc_l2615 : zC := (287, 5, 1, [(3, 88, .ofNat 0), (0, 0, .ofNat 885)], ([(88, (0, 0, .ofNat 28), (1, 0, .ofNat 0)), (1049, (0, 0, .ofNat 885), (0, 0, .ofNat 0))], []), [(.ofNat 0, .ofNat 100000, 0, .ofNat 0)], [], [(some (0, 0, .negSucc 0), ([], []), [(.ofNat 0, .ofNat 100000, 0, .ofNat 0)])], [(false, (0, 0, .ofNat 0))])
/-- GridLawsModel.later, row 5 -/
def zc_l2616 : zC := (287, 5, 1, [(3, 88, .ofNat 0), (0, 0, .ofNat 886)], ([(88, (0, 0, .ofNat 28), (1, 0, .ofNat 0)), (1049, (0, 0, .ofNat 886), (0, 0, .ofNat 0))], []), [(.ofNat 0, .ofNat 100000, 0, .ofNat 0)], [], [(some (0, 0, .negSucc 0), ([], []), [(.ofNat 0, .ofNat 100000, 0, .ofNat 0)])], [(false, (0, 0, .ofNat 0))])
/-- GridLawsModel.later, row 5 -/
def zc_l2617 : zC := (287, 5, 1, [(3, 88, .ofNat 0), (0, 0, .ofNat 887)], ([(88, (0, 0, .ofNat 28), (1, 0, .ofNat 0)), (1049, (0, 0, .ofNat 887), (0, 0, .ofNat 0))], []), [(.ofNat 0, .ofNat 100000, 0, .ofNat 0)], [], [(some (0, 0, .negSucc 0), ([], []), [(.ofNat 0, .ofNat 100000, 0, .ofNat 0)])], [(false, (0, 0, .ofNat 0))])
/-- GridLawsModel.later, row 5 -/
def zc_l2618 : zC := (287, 5, 1, [(3, 88, .ofNat 0), (0, 0, .ofNat 888)], ([(88, (0, 0, .ofNat 28), (1, 0, .ofNat 0)), (1049, (0, 0, .ofNat 888), (0, 0, .ofNat 0))], []), [(.ofNat 0, .ofNat 100000, 0, .ofNat 0)], [], [(some (0, 0, .negSucc 0), ([], []), [(.ofNat 0, .ofNat 100000, 0, .ofNat 0)])], [(false, (0, 0, .ofNat 0))])
/-- GridLawsModel.later, row 5 -/
def zc_l2619 : zC := (287, 5, 1, [(3, 88, .ofNat 0), (0, 0, .ofNat 889)], ([(88, (0, 0, .ofNat 28), (1, 0, .ofNat 0)), (1049, (0, 0, .ofNat 889), (0, 0, .ofNat 0))], []), [(.ofNat 0, .ofNat 100000, 0, .ofNat 0)], [], [(some (0, 0, .negSucc 0), ([], []), [(.ofNat 0, .ofNat 100000, 0, .ofNat 0)])], [(false, (0, 0, .ofNat 0))])
/-- GridLawsModel.later, row 5 -/
def zc_l2620 : zC := (287, 5, 1, [(3, 88, .ofNat 0), (0, 0, .ofNat 890)], ([(88, (0, 0, .ofNat 28), (1, 0, .ofNat 0)), (1049, (0, 0, .ofNat 890), (0, 0, .ofNat 0))], []), [(.ofNat 0, .ofNat 100000, 0, .ofNat 0)], [], [(some (0, 0, .negSucc 0), ([], []), [(.ofNat 0, .ofNat 100000, 0, .ofNat 0)])], [(false, (0, 0, .ofNat 0))])
/-- GridLawsModel.later, row 5 -/
def zc_l2621 : zC := (287, 5, 1, [(3, 88, .ofNat 0), (0, 0, .ofNat 891)], ([(88, (0, 0, .ofNat 28), (1, 0, .ofNat 0)), (1049, (0, 0, .ofNat 891), (0, 0, .ofNat 0))], []), [(.ofNat 0, .ofNat 100000, 0, .ofNat 0)], [], [(some (0, 0, .negSucc 0), ([], []), [(.ofNat 0, .ofNat 100000, 0, .ofNat 0)])], [(false, (0, 0, .ofNat 0))])
/-- GridLawsModel.later, row 5 -/
def zc_l2622 : zC := (287, 5, 1, [(3, 88, .ofNat 0), (0, 0, .ofNat 892)], ([(88, (0, 0, .ofNat 28), (1, 0, .ofNat 0)), (1049, (0, 0, .ofNat 892), (0, 0, .ofNat 0))], []), [(.ofNat 0, .ofNat 100000, 0, .ofNat 0)], [], [(some (0, 0, .negSucc 0), ([], []), [(.ofNat 0, .ofNat 100000, 0, .ofNat 0)])], [(false, (0, 0, .ofNat 0))])
/-- GridLawsModel.later, row 5 -/
def zc_l2623 : zC := (287, 5, 1, [(3, 88, .ofNat 0), (0, 0, .ofNat 893)], ([(88, (0, 0, .ofNat 28), (1, 0, .ofNat 0)), (1049, (0, 0, .ofNat 893), (0, 0, .ofNat 0))], []), [(.ofNat 0, .ofNat 100000, 0, .ofNat 0)], [], [(some (0, 0, .negSucc 0), ([], []), [(.ofNat 0, .ofNat 100000, 0, .ofNat 0)])], [(false, (0, 0, .ofNat 0))])
/-- GridLawsModel.later, row 5 -/
def zc_l2624 : zC := (287, 5, 1, [(3, 88, .ofNat 0), (0, 0, .ofNat 894)], ([(88, (0, 0, .ofNat 28), (1, 0, .ofNat 0)), (1049, (0, 0, .ofNat 894), (0, 0, .ofNat 0))], []), [(.ofNat 0, .ofNat 100000, 0, .ofNat 0)], [], [(some (0, 0, .negSucc 0), ([], []), [(.ofNat 0, .ofNat 100000, 0, .ofNat 0)])], [(false, (0, 0, .ofNat 0))])
/-- GridLawsModel.later, row 5 -/
def zc_l2625 : zC := (287, 5, 1, [(3, 88, .ofNat 0), (0, 0, .ofNat 895)], ([(88, (0, 0, .ofNat 28), (1, 0, .ofNat 0)), (1049, (0, 0, .ofNat 895), (0, 0, .ofNat 0))], []), [(.ofNat 0, .ofNat 100000, 0, .ofNat 0)], [], [(some (0, 0, .negSucc 0), ([], []), [(.ofNat 0, .ofNat 100000, 0, .ofNat 0)])], [(false, (0, 0, .ofNat 0))])
/-- GridLawsModel.later, row 5 -/
def zc_l2626 : zC := (287, 5, 1, [(3, 88, .ofNat 0), (0, 0, .ofNat 896)], ([(88, (0, 0, .ofNat 28), (1, 0, .ofNat 0)), (1049, (0, 0, .ofNat 896), (0, 0, .ofNat 0))], []), [(.ofNat 0, .ofNat 100000, 0, .ofNat 0)], [], [(some (0, 0, .negSucc 0), ([], []), [(.ofNat 0, .ofNat 100000, 0, .ofNat 0)])], [(false, (0, 0, .ofNat 0))])
/-- GridLawsModel.later, row 5 -/
def zc_l2627 : zC := (287, 5, 1, [(3, 88, .ofNat 0), (0, 0, .ofNat 897)], ([(88, (0, 0, .ofNat 28), (1, 0, .ofNat 0)), (1049, (0, 0, .ofNat 897), (0, 0, .ofNat 0))], []), [(.ofNat 0, .ofNat 100000, 0, .ofNat 0)], [], [(some (0, 0, .negSucc 0), ([], []), [(.ofNat 0, .ofNat 100000, 0, .ofNat 0)])], [(false, (0, 0, .ofNat 0))])
/-- GridLawsModel.later, row 5 -/
def zc_l2628 : zC := (287, 5, 1, [(3, 88, .ofNat 0), (0, 0, .ofNat 898)], ([(88, (0, 0, .ofNat 28), (1, 0, .ofNat 0)), (1049, (0, 0, .ofNat 898), (0, 0, .ofNat 0))], []), [(.ofNat 0, .ofNat 100000, 0, .ofNat 0)], [], [(some (0, 0, .negSucc 0), ([], []), [(.ofNat 0, .ofNat 100000, 0, .ofNat 0)])], [(false, (0, 0, .ofNat 0))])
/-- GridLawsModel.later, row 5 -/
def zc_l2629 : zC := (287, 5, 1, [(3, 88, .ofNat 0), (0, 0, .ofNat 899)], ([(88, (0, 0, .ofNat 28), (1, 0, .ofNat 0)), (1049, (0, 0, .ofNat 899), (0, 0, .ofNat 0))], []), [(.ofNat 0, .ofNat 100000, 0, .ofNat 0)], [], [(some (0, 0, .negSucc 0), ([], []), [(.ofNat 0, .ofNat 100000, 0, .ofNat 0)])], [(false, (0, 0, .ofNat 0))])
def zgl_l2529_0 : List zC := [zc_l2529, zc_l2530, zc_l2531, zc_l2532, zc_l2533, zc_l2534, zc_l2535, zc_l2536, zc_l2537, zc_l2538, zc_l2539, zc_l2540, zc_l2541, zc_l2542, zc_l2543, zc_l2544]
def zgl_l2529_1 : List zC := [zc_l2545, zc_l2546, zc_l2547, zc_l2548, zc_l2549, zc_l2550, zc_l2551, zc_l2552, zc_l2553, zc_l2554, zc_l2555, zc_l2556, zc_l2557, zc_l2558, zc_l2559, zc_l2560]
def zgl_l2529_2 : List zC := [zc_l2561, zc_l2562, zc_l2563, zc_l2564, zc_l2565, zc_l2566, zc_l2567, zc_l2568, zc_l2569, zc_l2570, zc_l2571, zc_l2572, zc_l2573, zc_l2574, zc_l2575, zc_l2576]
def zgl_l2529_3 : List zC := [zc_l2577, zc_l2578, zc_l2579, zc_l2580, zc_l2581, zc_l2582, zc_l2583, zc_l2584, zc_l2585, zc_l2586, zc_l2587, zc_l2588, zc_l2589, zc_l2590, zc_l2591, zc_l2592]
def zgl_l2529_4 : List zC := [zc_l2593, zc_l2594, zc_l2595, zc_l2596, zc_l2597, zc_l2598, zc_l2599, zc_l2600, zc_l2601, zc_l2602, zc_l2603, zc_l2604, zc_l2605, zc_l2606, zc_l2607, zc_l2608]
def zgl_l2529_5 : List zC := [zc_l2609, zc_l2610, zc_l2611, zc_l2612, zc_l2613, zc_l2614, zc_l2615, zc_l2616, zc_l2617, zc_l2618, zc_l2619, zc_l2620, zc_l2621, zc_l2622, zc_l2623, zc_l2624]
def zgl_l2529_6 : List zC := [zc_l2625, zc_l2626, zc_l2627, zc_l2628, zc_l2629]
def zgl_l2529 : List zC := zgl_l2529_0 ++ (zgl_l2529_1 ++ (zgl_l2529_2 ++ (zgl_l2529_3 ++ (zgl_l2529_4 ++ (zgl_l2529_5 ++ (zgl_l2529_6))))))
def zgh_l2529_0 : List (zC × zHt) := [(zc_l2529, [(5, 0, 0), (5, 1, 0)]), (zc_l2530, [(13, 2, 94)]), (zc_l2531, [(13, 2, 94)]), (zc_l2532, [(13, 2, 94)]), (zc_l2533, [(13, 2, 94)]), (zc_l2534, [(13, 2, 94)]), (zc_l2535, [(13, 2, 94)]), (zc_l2536, [(13, 2, 94)]), (zc_l2537, [(13, 2, 94)]), (zc_l2538, [(13, 2, 94)]), (zc_l2539, [(13, 2, 94)]), (zc_l2540, [(13, 2, 94)]), (zc_l2541, [(13, 2, 94)]), (zc_l2542, [(13, 2, 94)]), (zc_l2543, [(13, 2, 94)]), (zc_l2544, [(13, 2, 94)])]
def zgh_l2529_1 : List (zC × zHt) := [(zc_l2545, [(13, 2, 94)]), (zc_l2546, [(13, 2, 94)]), (zc_l2547, [(13, 2, 94)]), (zc_l2548, [(13, 2, 94)]), (zc_l2549, [(13, 2, 94)]), (zc_l2550, [(13, 2, 94)]), (zc_l2551, [(13, 2, 94)]), (zc_l2552, [(13, 2, 94)]), (zc_l2553, [(13, 2, 94)]), (zc_l2554, [(13, 2, 94)]), (zc_l2555, [(13, 2, 94)]), (zc_l2556, [(13, 2, 94)]), (zc_l2557, [(13, 2, 94)]), (zc_l2558, [(13, 2, 94)]), (zc_l2559, [(13, 2, 94)]), (zc_l2560, [(13, 2, 94)])]
def zgh_l2529_2 : List (zC × zHt) := [(zc_l2561, [(13, 2, 94)]), (zc_l2562, [(13, 2, 94)]), (zc_l2563, [(13, 2, 94)]), (zc_l2564, [(13, 2, 94)]), (zc_l2565, [(13, 2, 94)]), (zc_l2566, [(13, 2, 94)]), (zc_l2567, [(13, 2, 94)]), (zc_l2568, [(13, 2, 94)]), (zc_l2569, [(13, 2, 94)]), (zc_l2570, [(13, 2, 94)]), (zc_l2571, [(13, 2, 94)]), (zc_l2572, [(13, 2, 94)]), (zc_l2573, [(13, 2, 94)]), (zc_l2574, [(13, 2, 94)]), (zc_l2575, [(13, 2, 94)]), (zc_l2576, [(13, 2, 94)])]
def zgh_l2529_3 : List (zC × zHt) := [(zc_l2577, [(13, 2, 94)]), (zc_l2578, [(13, 2, 94)]), (zc_l2579, [(13, 2, 94)]), (zc_l2580, [(13, 2, 94)]), (zc_l2581, [(13, 2, 94)]), (zc_l2582, [(13, 2, 94)]), (zc_l2583, [(13, 2, 94)]), (zc_l2584, [(13, 2, 94)]), (zc_l2585, [(13, 2, 94)]), (zc_l2586, [(13, 2, 94)]), (zc_l2587, [(13, 2, 94)]), (zc_l2588, [(13, 2, 94)]), (zc_l2589, [(13, 2, 94)]), (zc_l2590, [(13, 2, 94)]), (zc_l2591, [(13, 2, 94)]), (zc_l2592, [(13, 2, 94)])]
def zgh_l2529_4 : List (zC × zHt) := [(zc_l2593, [(13, 2, 94)]), (zc_l2594, [(13, 2, 94)]), (zc_l2595, [(13, 2, 94)]), (zc_l2596, [(13, 2, 94)]), (zc_l2597, [(13, 2, 94)]), (zc_l2598, [(13, 2, 94)]), (zc_l2599, [(13, 2, 94)]), (zc_l2600, [(13, 2, 94)]), (zc_l2601, [(13, 2, 94)]), (zc_l2602, [(13, 2, 94)]), (zc_l2603, [(13, 2, 94)]), (zc_l2604, [(13, 2, 94)]), (zc_l2605, [(13, 2, 94)]), (zc_l2606, [(13, 2, 94)]), (zc_l2607, [(13, 2, 94)]), (zc_l2608, [(13, 2, 94)])]
def zgh_l2529_5 : List (zC × zHt) := [(zc_l2609, [(13, 2, 94)]), (zc_l2610, [(13, 2, 94)]), (zc_l2611, [(13, 2, 94)]), (zc_l2612, [(13, 2, 94)]), (zc_l2613, [(13, 2, 94)]), (zc_l2614, [(13, 2, 94)]), (zc_l2615, [(13, 2, 94)]), (zc_l2616, [(13, 2, 94)]), (zc_l2617, [(13, 2, 94)]), (zc_l2618, [(13, 2, 94)]), (zc_l2619, [(13, 2, 94)]), (zc_l2620, [(13, 2, 94)]), (zc_l2621, [(13, 2, 94)]), (zc_l2622, [(13, 2, 94)]), (zc_l2623, [(13, 2, 94)]), (zc_l2624, [(13, 2, 94)])]
def zgh_l2529_6 : List (zC × zHt) := [(zc_l2625, [(13, 2, 94)]), (zc_l2626, [(13, 2, 94)]), (zc_l2627, [(13, 2, 94)]), (zc_l2628, [(13, 2, 94)]), (zc_l2629, [(13, 2, 94)])]
theorem zge_l2529_0 : zgh_l2529_0.map Prod.fst = zgl_l2529_0 := rfl
theorem zge_l2529_1 : zgh_l2529_1.map Prod.fst = zgl_l2529_1 := rfl
theorem zge_l2529_2 : zgh_l2529_2.map Prod.fst = zgl_l2529_2 := rfl
theorem zge_l2529_3 : zgh_l2529_3.map Prod.fst = zgl_l2529_3 := rfl
theorem zge_l2529_4 : zgh_l2529_4.map Prod.fst = zgl_l2529_4 := rfl
theorem zge_l2529_5 : zgh_l2529_5.map Prod.fst = zgl_l2529_5 := rfl
theorem zge_l2529_6 : zgh_l2529_6.map Prod.fst = zgl_l2529_6 := rfl
theorem zge_l2529 : (zgh_l2529_0 ++ (zgh_l2529_1 ++ (zgh_l2529_2 ++ (zgh_l2529_3 ++ (zgh_l2529_4 ++ (zgh_l2529_5 ++ (zgh_l2529_6))))))).map Prod.fst = zgl_l2529 := by
  rw [List.map_append, zge_l2529_0, List.map_append, zge_l2529_1, List.map_append, zge_l2529_2, List.map_append, zge_l2529_3, List.map_append, zge_l2529_4, List.map_append, zge_l2529_5, zge_l2529_6]
  rfl

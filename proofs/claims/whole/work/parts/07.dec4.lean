theorem dL_law_2288 : decode cL_law 2288 = .ok (.iload 6, 2) := by decide +kernel
theorem dL_law_2290 : decode cL_law 2290 = .ok (.if_icmp .eq 5, 3) := by decide +kernel
theorem dL_law_2293 : decode cL_law 2293 = .ok (.iconst 0, 1) := by decide +kernel
theorem dL_law_2294 : decode cL_law 2294 = .ok (.ireturn, 1) := by decide +kernel
theorem dL_law_2295 : decode cL_law 2295 = .ok (.iload 6, 2) := by decide +kernel
theorem dL_law_2297 : decode cL_law 2297 = .ok (.ifCond .ne 15, 3) := by decide +kernel
theorem dL_law_2300 : decode cL_law 2300 = .ok (.aload_n 3, 1) := by decide +kernel
theorem dL_law_2301 : decode cL_law 2301 = .ok (.iconst 0, 1) := by decide +kernel
theorem dL_law_2302 : decode cL_law 2302 = .ok (.laload, 1) := by decide +kernel
theorem dL_law_2303 : decode cL_law 2303 = .ok (.iload 7, 2) := by decide +kernel
theorem dL_law_2305 : decode cL_law 2305 = .ok (.i2l, 1) := by decide +kernel
theorem dL_law_2306 : decode cL_law 2306 = .ok (.lcmp, 1) := by decide +kernel
theorem dL_law_2307 : decode cL_law 2307 = .ok (.ifCond .eq 5, 3) := by decide +kernel
theorem dL_law_2310 : decode cL_law 2310 = .ok (.iconst 0, 1) := by decide +kernel
theorem dL_law_2311 : decode cL_law 2311 = .ok (.ireturn, 1) := by decide +kernel
theorem dL_law_2312 : decode cL_law 2312 = .ok (.goto 708, 3) := by decide +kernel
theorem dL_law_2315 : decode cL_law 2315 = .ok (.aload_n 1, 1) := by decide +kernel
theorem dL_law_2316 : decode cL_law 2316 = .ok (.aload_n 3, 1) := by decide +kernel
theorem dL_law_2317 : decode cL_law 2317 = .ok (.invokestatic 295, 3) := by decide +kernel
theorem dL_law_2320 : decode cL_law 2320 = .ok (.istore 6, 2) := by decide +kernel
theorem dL_law_2322 : decode cL_law 2322 = .ok (.aload_n 2, 1) := by decide +kernel
theorem dL_law_2323 : decode cL_law 2323 = .ok (.invokevirtual 297, 3) := by decide +kernel
theorem dL_law_2326 : decode cL_law 2326 = .ok (.istore 7, 2) := by decide +kernel
theorem dL_law_2328 : decode cL_law 2328 = .ok (.aload_n 2, 1) := by decide +kernel
theorem dL_law_2329 : decode cL_law 2329 = .ok (.invokevirtual 174, 3) := by decide +kernel
theorem dL_law_2332 : decode cL_law 2332 = .ok (.iload 6, 2) := by decide +kernel
theorem dL_law_2334 : decode cL_law 2334 = .ok (.if_icmp .eq 5, 3) := by decide +kernel
theorem dL_law_2337 : decode cL_law 2337 = .ok (.iconst 0, 1) := by decide +kernel
theorem dL_law_2338 : decode cL_law 2338 = .ok (.ireturn, 1) := by decide +kernel
theorem dL_law_2339 : decode cL_law 2339 = .ok (.iload 6, 2) := by decide +kernel
theorem dL_law_2341 : decode cL_law 2341 = .ok (.ifCond .ne 15, 3) := by decide +kernel
theorem dL_law_2344 : decode cL_law 2344 = .ok (.aload_n 3, 1) := by decide +kernel
theorem dL_law_2345 : decode cL_law 2345 = .ok (.iconst 0, 1) := by decide +kernel
theorem dL_law_2346 : decode cL_law 2346 = .ok (.laload, 1) := by decide +kernel
theorem dL_law_2347 : decode cL_law 2347 = .ok (.iload 7, 2) := by decide +kernel
theorem dL_law_2349 : decode cL_law 2349 = .ok (.i2l, 1) := by decide +kernel
theorem dL_law_2350 : decode cL_law 2350 = .ok (.lcmp, 1) := by decide +kernel
theorem dL_law_2351 : decode cL_law 2351 = .ok (.ifCond .eq 5, 3) := by decide +kernel
theorem dL_law_2354 : decode cL_law 2354 = .ok (.iconst 0, 1) := by decide +kernel
theorem dL_law_2355 : decode cL_law 2355 = .ok (.ireturn, 1) := by decide +kernel
theorem dL_law_2356 : decode cL_law 2356 = .ok (.goto 664, 3) := by decide +kernel
theorem dL_law_2359 : decode cL_law 2359 = .ok (.aload_n 1, 1) := by decide +kernel
theorem dL_law_2360 : decode cL_law 2360 = .ok (.aload_n 0, 1) := by decide +kernel
theorem dL_law_2361 : decode cL_law 2361 = .ok (.iload 5, 2) := by decide +kernel
theorem dL_law_2363 : decode cL_law 2363 = .ok (.iconst 1, 1) := by decide +kernel
theorem dL_law_2364 : decode cL_law 2364 = .ok (.iadd, 1) := by decide +kernel
theorem dL_law_2365 : decode cL_law 2365 = .ok (.iaload, 1) := by decide +kernel
theorem dL_law_2366 : decode cL_law 2366 = .ok (.aload_n 3, 1) := by decide +kernel
theorem dL_law_2367 : decode cL_law 2367 = .ok (.invokestatic 298, 3) := by decide +kernel
theorem dL_law_2370 : decode cL_law 2370 = .ok (.istore 6, 2) := by decide +kernel
theorem dL_law_2372 : decode cL_law 2372 = .ok (.aload_n 2, 1) := by decide +kernel
theorem dL_law_2373 : decode cL_law 2373 = .ok (.aload_n 0, 1) := by decide +kernel
theorem dL_law_2374 : decode cL_law 2374 = .ok (.iload 5, 2) := by decide +kernel
theorem dL_law_2376 : decode cL_law 2376 = .ok (.iconst 1, 1) := by decide +kernel
theorem dL_law_2377 : decode cL_law 2377 = .ok (.iadd, 1) := by decide +kernel
theorem dL_law_2378 : decode cL_law 2378 = .ok (.iaload, 1) := by decide +kernel
theorem dL_law_2379 : decode cL_law 2379 = .ok (.invokevirtual 300, 3) := by decide +kernel
theorem dL_law_2382 : decode cL_law 2382 = .ok (.istore 7, 2) := by decide +kernel
theorem dL_law_2384 : decode cL_law 2384 = .ok (.aload_n 2, 1) := by decide +kernel
theorem dL_law_2385 : decode cL_law 2385 = .ok (.invokevirtual 174, 3) := by decide +kernel
theorem dL_law_2388 : decode cL_law 2388 = .ok (.iload 6, 2) := by decide +kernel
theorem dL_law_2390 : decode cL_law 2390 = .ok (.if_icmp .eq 5, 3) := by decide +kernel
theorem dL_law_2393 : decode cL_law 2393 = .ok (.iconst 0, 1) := by decide +kernel
theorem dL_law_2394 : decode cL_law 2394 = .ok (.ireturn, 1) := by decide +kernel
theorem dL_law_2395 : decode cL_law 2395 = .ok (.iload 6, 2) := by decide +kernel
theorem dL_law_2397 : decode cL_law 2397 = .ok (.ifCond .ne 15, 3) := by decide +kernel
theorem dL_law_2400 : decode cL_law 2400 = .ok (.aload_n 3, 1) := by decide +kernel
theorem dL_law_2401 : decode cL_law 2401 = .ok (.iconst 0, 1) := by decide +kernel
theorem dL_law_2402 : decode cL_law 2402 = .ok (.laload, 1) := by decide +kernel
theorem dL_law_2403 : decode cL_law 2403 = .ok (.iload 7, 2) := by decide +kernel
theorem dL_law_2405 : decode cL_law 2405 = .ok (.i2l, 1) := by decide +kernel
theorem dL_law_2406 : decode cL_law 2406 = .ok (.lcmp, 1) := by decide +kernel
theorem dL_law_2407 : decode cL_law 2407 = .ok (.ifCond .eq 5, 3) := by decide +kernel
theorem dL_law_2410 : decode cL_law 2410 = .ok (.iconst 0, 1) := by decide +kernel
theorem dL_law_2411 : decode cL_law 2411 = .ok (.ireturn, 1) := by decide +kernel
theorem dL_law_2412 : decode cL_law 2412 = .ok (.goto 608, 3) := by decide +kernel
theorem dL_law_2415 : decode cL_law 2415 = .ok (.aload_n 1, 1) := by decide +kernel
theorem dL_law_2416 : decode cL_law 2416 = .ok (.aload_n 0, 1) := by decide +kernel
theorem dL_law_2417 : decode cL_law 2417 = .ok (.iload 5, 2) := by decide +kernel
theorem dL_law_2419 : decode cL_law 2419 = .ok (.iconst 1, 1) := by decide +kernel
theorem dL_law_2420 : decode cL_law 2420 = .ok (.iadd, 1) := by decide +kernel
theorem dL_law_2421 : decode cL_law 2421 = .ok (.iaload, 1) := by decide +kernel
theorem dL_law_2422 : decode cL_law 2422 = .ok (.aload_n 3, 1) := by decide +kernel
theorem dL_law_2423 : decode cL_law 2423 = .ok (.invokestatic 301, 3) := by decide +kernel
theorem dL_law_2426 : decode cL_law 2426 = .ok (.istore 6, 2) := by decide +kernel
theorem dL_law_2428 : decode cL_law 2428 = .ok (.aload_n 2, 1) := by decide +kernel
theorem dL_law_2429 : decode cL_law 2429 = .ok (.aload_n 0, 1) := by decide +kernel
theorem dL_law_2430 : decode cL_law 2430 = .ok (.iload 5, 2) := by decide +kernel
theorem dL_law_2432 : decode cL_law 2432 = .ok (.iconst 1, 1) := by decide +kernel
theorem dL_law_2433 : decode cL_law 2433 = .ok (.iadd, 1) := by decide +kernel
theorem dL_law_2434 : decode cL_law 2434 = .ok (.iaload, 1) := by decide +kernel
theorem dL_law_2435 : decode cL_law 2435 = .ok (.invokevirtual 303, 3) := by decide +kernel
theorem dL_law_2438 : decode cL_law 2438 = .ok (.istore 7, 2) := by decide +kernel
theorem dL_law_2440 : decode cL_law 2440 = .ok (.aload_n 2, 1) := by decide +kernel
theorem dL_law_2441 : decode cL_law 2441 = .ok (.invokevirtual 174, 3) := by decide +kernel
theorem dL_law_2444 : decode cL_law 2444 = .ok (.iload 6, 2) := by decide +kernel
theorem dL_law_2446 : decode cL_law 2446 = .ok (.if_icmp .eq 5, 3) := by decide +kernel
theorem dL_law_2449 : decode cL_law 2449 = .ok (.iconst 0, 1) := by decide +kernel
theorem dL_law_2450 : decode cL_law 2450 = .ok (.ireturn, 1) := by decide +kernel
theorem dL_law_2451 : decode cL_law 2451 = .ok (.iload 6, 2) := by decide +kernel
theorem dL_law_2453 : decode cL_law 2453 = .ok (.ifCond .ne 15, 3) := by decide +kernel
theorem dL_law_2456 : decode cL_law 2456 = .ok (.aload_n 3, 1) := by decide +kernel
theorem dL_law_2457 : decode cL_law 2457 = .ok (.iconst 0, 1) := by decide +kernel
theorem dL_law_2458 : decode cL_law 2458 = .ok (.laload, 1) := by decide +kernel
theorem dL_law_2459 : decode cL_law 2459 = .ok (.iload 7, 2) := by decide +kernel
theorem dL_law_2461 : decode cL_law 2461 = .ok (.i2l, 1) := by decide +kernel
theorem dL_law_2462 : decode cL_law 2462 = .ok (.lcmp, 1) := by decide +kernel
theorem dL_law_2463 : decode cL_law 2463 = .ok (.ifCond .eq 5, 3) := by decide +kernel
theorem dL_law_2466 : decode cL_law 2466 = .ok (.iconst 0, 1) := by decide +kernel
theorem dL_law_2467 : decode cL_law 2467 = .ok (.ireturn, 1) := by decide +kernel
theorem dL_law_2468 : decode cL_law 2468 = .ok (.goto 552, 3) := by decide +kernel
theorem dL_law_2471 : decode cL_law 2471 = .ok (.aload_n 1, 1) := by decide +kernel
theorem dL_law_2472 : decode cL_law 2472 = .ok (.aload_n 0, 1) := by decide +kernel
theorem dL_law_2473 : decode cL_law 2473 = .ok (.iload 5, 2) := by decide +kernel
theorem dL_law_2475 : decode cL_law 2475 = .ok (.iconst 1, 1) := by decide +kernel
theorem dL_law_2476 : decode cL_law 2476 = .ok (.iadd, 1) := by decide +kernel
theorem dL_law_2477 : decode cL_law 2477 = .ok (.iaload, 1) := by decide +kernel
theorem dL_law_2478 : decode cL_law 2478 = .ok (.aload_n 3, 1) := by decide +kernel
theorem dL_law_2479 : decode cL_law 2479 = .ok (.invokestatic 304, 3) := by decide +kernel
theorem dL_law_2482 : decode cL_law 2482 = .ok (.istore 6, 2) := by decide +kernel
theorem dL_law_2484 : decode cL_law 2484 = .ok (.aload_n 2, 1) := by decide +kernel
theorem dL_law_2485 : decode cL_law 2485 = .ok (.aload_n 0, 1) := by decide +kernel
theorem dL_law_2486 : decode cL_law 2486 = .ok (.iload 5, 2) := by decide +kernel
theorem dL_law_2488 : decode cL_law 2488 = .ok (.iconst 1, 1) := by decide +kernel
theorem dL_law_2489 : decode cL_law 2489 = .ok (.iadd, 1) := by decide +kernel
theorem dL_law_2490 : decode cL_law 2490 = .ok (.iaload, 1) := by decide +kernel
theorem dL_law_2491 : decode cL_law 2491 = .ok (.invokevirtual 306, 3) := by decide +kernel
theorem dL_law_2494 : decode cL_law 2494 = .ok (.istore 7, 2) := by decide +kernel
theorem dL_law_2496 : decode cL_law 2496 = .ok (.aload_n 2, 1) := by decide +kernel
theorem dL_law_2497 : decode cL_law 2497 = .ok (.invokevirtual 174, 3) := by decide +kernel
theorem dL_law_2500 : decode cL_law 2500 = .ok (.iload 6, 2) := by decide +kernel
theorem dL_law_2502 : decode cL_law 2502 = .ok (.if_icmp .eq 5, 3) := by decide +kernel
theorem dL_law_2505 : decode cL_law 2505 = .ok (.iconst 0, 1) := by decide +kernel
theorem dL_law_2506 : decode cL_law 2506 = .ok (.ireturn, 1) := by decide +kernel
theorem dL_law_2507 : decode cL_law 2507 = .ok (.iload 6, 2) := by decide +kernel
theorem dL_law_2509 : decode cL_law 2509 = .ok (.ifCond .ne 15, 3) := by decide +kernel
theorem dL_law_2512 : decode cL_law 2512 = .ok (.aload_n 3, 1) := by decide +kernel
theorem dL_law_2513 : decode cL_law 2513 = .ok (.iconst 0, 1) := by decide +kernel
theorem dL_law_2514 : decode cL_law 2514 = .ok (.laload, 1) := by decide +kernel
theorem dL_law_2515 : decode cL_law 2515 = .ok (.iload 7, 2) := by decide +kernel
theorem dL_law_2517 : decode cL_law 2517 = .ok (.i2l, 1) := by decide +kernel
theorem dL_law_2518 : decode cL_law 2518 = .ok (.lcmp, 1) := by decide +kernel
theorem dL_law_2519 : decode cL_law 2519 = .ok (.ifCond .eq 5, 3) := by decide +kernel
theorem dL_law_2522 : decode cL_law 2522 = .ok (.iconst 0, 1) := by decide +kernel
theorem dL_law_2523 : decode cL_law 2523 = .ok (.ireturn, 1) := by decide +kernel
theorem dL_law_2524 : decode cL_law 2524 = .ok (.goto 496, 3) := by decide +kernel
theorem dL_law_2527 : decode cL_law 2527 = .ok (.aload_n 1, 1) := by decide +kernel
theorem dL_law_2528 : decode cL_law 2528 = .ok (.aload_n 0, 1) := by decide +kernel
theorem dL_law_2529 : decode cL_law 2529 = .ok (.iload 5, 2) := by decide +kernel
theorem dL_law_2531 : decode cL_law 2531 = .ok (.iconst 1, 1) := by decide +kernel
theorem dL_law_2532 : decode cL_law 2532 = .ok (.iadd, 1) := by decide +kernel
theorem dL_law_2533 : decode cL_law 2533 = .ok (.iaload, 1) := by decide +kernel
theorem dL_law_2534 : decode cL_law 2534 = .ok (.aload_n 3, 1) := by decide +kernel
theorem dL_law_2535 : decode cL_law 2535 = .ok (.invokestatic 307, 3) := by decide +kernel
theorem dL_law_2538 : decode cL_law 2538 = .ok (.istore 6, 2) := by decide +kernel
theorem dL_law_2540 : decode cL_law 2540 = .ok (.aload_n 2, 1) := by decide +kernel
theorem dL_law_2541 : decode cL_law 2541 = .ok (.aload_n 0, 1) := by decide +kernel
theorem dL_law_2542 : decode cL_law 2542 = .ok (.iload 5, 2) := by decide +kernel
theorem dL_law_2544 : decode cL_law 2544 = .ok (.iconst 1, 1) := by decide +kernel
theorem dL_law_2545 : decode cL_law 2545 = .ok (.iadd, 1) := by decide +kernel
theorem dL_law_2546 : decode cL_law 2546 = .ok (.iaload, 1) := by decide +kernel
theorem dL_law_2547 : decode cL_law 2547 = .ok (.invokevirtual 309, 3) := by decide +kernel
theorem dL_law_2550 : decode cL_law 2550 = .ok (.istore 7, 2) := by decide +kernel
theorem dL_law_2552 : decode cL_law 2552 = .ok (.aload_n 2, 1) := by decide +kernel
theorem dL_law_2553 : decode cL_law 2553 = .ok (.invokevirtual 174, 3) := by decide +kernel
theorem dL_law_2556 : decode cL_law 2556 = .ok (.iload 6, 2) := by decide +kernel
theorem dL_law_2558 : decode cL_law 2558 = .ok (.if_icmp .eq 5, 3) := by decide +kernel
theorem dL_law_2561 : decode cL_law 2561 = .ok (.iconst 0, 1) := by decide +kernel
theorem dL_law_2562 : decode cL_law 2562 = .ok (.ireturn, 1) := by decide +kernel
theorem dL_law_2563 : decode cL_law 2563 = .ok (.iload 6, 2) := by decide +kernel
theorem dL_law_2565 : decode cL_law 2565 = .ok (.ifCond .ne 15, 3) := by decide +kernel
theorem dL_law_2568 : decode cL_law 2568 = .ok (.aload_n 3, 1) := by decide +kernel
theorem dL_law_2569 : decode cL_law 2569 = .ok (.iconst 0, 1) := by decide +kernel
theorem dL_law_2570 : decode cL_law 2570 = .ok (.laload, 1) := by decide +kernel
theorem dL_law_2571 : decode cL_law 2571 = .ok (.iload 7, 2) := by decide +kernel
theorem dL_law_2573 : decode cL_law 2573 = .ok (.i2l, 1) := by decide +kernel
theorem dL_law_2574 : decode cL_law 2574 = .ok (.lcmp, 1) := by decide +kernel
theorem dL_law_2575 : decode cL_law 2575 = .ok (.ifCond .eq 5, 3) := by decide +kernel
theorem dL_law_2578 : decode cL_law 2578 = .ok (.iconst 0, 1) := by decide +kernel
theorem dL_law_2579 : decode cL_law 2579 = .ok (.ireturn, 1) := by decide +kernel
theorem dL_law_2580 : decode cL_law 2580 = .ok (.goto 440, 3) := by decide +kernel
theorem dL_law_2583 : decode cL_law 2583 = .ok (.aload_n 1, 1) := by decide +kernel
theorem dL_law_2584 : decode cL_law 2584 = .ok (.aload_n 0, 1) := by decide +kernel
theorem dL_law_2585 : decode cL_law 2585 = .ok (.iload 5, 2) := by decide +kernel
theorem dL_law_2587 : decode cL_law 2587 = .ok (.iconst 1, 1) := by decide +kernel
theorem dL_law_2588 : decode cL_law 2588 = .ok (.iadd, 1) := by decide +kernel
theorem dL_law_2589 : decode cL_law 2589 = .ok (.iaload, 1) := by decide +kernel
theorem dL_law_2590 : decode cL_law 2590 = .ok (.aload_n 3, 1) := by decide +kernel
theorem dL_law_2591 : decode cL_law 2591 = .ok (.invokestatic 310, 3) := by decide +kernel
theorem dL_law_2594 : decode cL_law 2594 = .ok (.istore 6, 2) := by decide +kernel
theorem dL_law_2596 : decode cL_law 2596 = .ok (.aload_n 2, 1) := by decide +kernel
theorem dL_law_2597 : decode cL_law 2597 = .ok (.aload_n 0, 1) := by decide +kernel
theorem dL_law_2598 : decode cL_law 2598 = .ok (.iload 5, 2) := by decide +kernel
theorem dL_law_2600 : decode cL_law 2600 = .ok (.iconst 1, 1) := by decide +kernel
theorem dL_law_2601 : decode cL_law 2601 = .ok (.iadd, 1) := by decide +kernel
theorem dL_law_2602 : decode cL_law 2602 = .ok (.iaload, 1) := by decide +kernel
theorem dL_law_2603 : decode cL_law 2603 = .ok (.invokevirtual 312, 3) := by decide +kernel
theorem dL_law_2606 : decode cL_law 2606 = .ok (.istore 7, 2) := by decide +kernel
theorem dL_law_2608 : decode cL_law 2608 = .ok (.aload_n 2, 1) := by decide +kernel
theorem dL_law_2609 : decode cL_law 2609 = .ok (.invokevirtual 174, 3) := by decide +kernel
theorem dL_law_2612 : decode cL_law 2612 = .ok (.iload 6, 2) := by decide +kernel
theorem dL_law_2614 : decode cL_law 2614 = .ok (.if_icmp .eq 5, 3) := by decide +kernel
theorem dL_law_2617 : decode cL_law 2617 = .ok (.iconst 0, 1) := by decide +kernel
theorem dL_law_2618 : decode cL_law 2618 = .ok (.ireturn, 1) := by decide +kernel
theorem dL_law_2619 : decode cL_law 2619 = .ok (.iload 6, 2) := by decide +kernel
theorem dL_law_2621 : decode cL_law 2621 = .ok (.ifCond .ne 15, 3) := by decide +kernel
theorem dL_law_2624 : decode cL_law 2624 = .ok (.aload_n 3, 1) := by decide +kernel
theorem dL_law_2625 : decode cL_law 2625 = .ok (.iconst 0, 1) := by decide +kernel
theorem dL_law_2626 : decode cL_law 2626 = .ok (.laload, 1) := by decide +kernel
theorem dL_law_2627 : decode cL_law 2627 = .ok (.iload 7, 2) := by decide +kernel
theorem dL_law_2629 : decode cL_law 2629 = .ok (.i2l, 1) := by decide +kernel
theorem dL_law_2630 : decode cL_law 2630 = .ok (.lcmp, 1) := by decide +kernel
theorem dL_law_2631 : decode cL_law 2631 = .ok (.ifCond .eq 5, 3) := by decide +kernel
theorem dL_law_2634 : decode cL_law 2634 = .ok (.iconst 0, 1) := by decide +kernel
theorem dL_law_2635 : decode cL_law 2635 = .ok (.ireturn, 1) := by decide +kernel
theorem dL_law_2636 : decode cL_law 2636 = .ok (.goto 384, 3) := by decide +kernel
theorem dL_law_2639 : decode cL_law 2639 = .ok (.aload_n 1, 1) := by decide +kernel
theorem dL_law_2640 : decode cL_law 2640 = .ok (.aload_n 0, 1) := by decide +kernel
theorem dL_law_2641 : decode cL_law 2641 = .ok (.iload 5, 2) := by decide +kernel
theorem dL_law_2643 : decode cL_law 2643 = .ok (.iconst 1, 1) := by decide +kernel
theorem dL_law_2644 : decode cL_law 2644 = .ok (.iadd, 1) := by decide +kernel
theorem dL_law_2645 : decode cL_law 2645 = .ok (.iaload, 1) := by decide +kernel
theorem dL_law_2646 : decode cL_law 2646 = .ok (.aload_n 3, 1) := by decide +kernel
theorem dL_law_2647 : decode cL_law 2647 = .ok (.invokestatic 313, 3) := by decide +kernel
theorem dL_law_2650 : decode cL_law 2650 = .ok (.istore 6, 2) := by decide +kernel
theorem dL_law_2652 : decode cL_law 2652 = .ok (.aload_n 2, 1) := by decide +kernel
theorem dL_law_2653 : decode cL_law 2653 = .ok (.aload_n 0, 1) := by decide +kernel
theorem dL_law_2654 : decode cL_law 2654 = .ok (.iload 5, 2) := by decide +kernel
theorem dL_law_2656 : decode cL_law 2656 = .ok (.iconst 1, 1) := by decide +kernel
theorem dL_law_2657 : decode cL_law 2657 = .ok (.iadd, 1) := by decide +kernel
theorem dL_law_2658 : decode cL_law 2658 = .ok (.iaload, 1) := by decide +kernel
theorem dL_law_2659 : decode cL_law 2659 = .ok (.invokevirtual 315, 3) := by decide +kernel
theorem dL_law_2662 : decode cL_law 2662 = .ok (.istore 7, 2) := by decide +kernel
theorem dL_law_2664 : decode cL_law 2664 = .ok (.aload_n 2, 1) := by decide +kernel
theorem dL_law_2665 : decode cL_law 2665 = .ok (.invokevirtual 174, 3) := by decide +kernel
theorem dL_law_2668 : decode cL_law 2668 = .ok (.iload 6, 2) := by decide +kernel
theorem dL_law_2670 : decode cL_law 2670 = .ok (.if_icmp .eq 5, 3) := by decide +kernel
theorem dL_law_2673 : decode cL_law 2673 = .ok (.iconst 0, 1) := by decide +kernel
theorem dL_law_2674 : decode cL_law 2674 = .ok (.ireturn, 1) := by decide +kernel
theorem dL_law_2675 : decode cL_law 2675 = .ok (.iload 6, 2) := by decide +kernel
theorem dL_law_2677 : decode cL_law 2677 = .ok (.ifCond .ne 15, 3) := by decide +kernel
theorem dL_law_2680 : decode cL_law 2680 = .ok (.aload_n 3, 1) := by decide +kernel
theorem dL_law_2681 : decode cL_law 2681 = .ok (.iconst 0, 1) := by decide +kernel
theorem dL_law_2682 : decode cL_law 2682 = .ok (.laload, 1) := by decide +kernel
theorem dL_law_2683 : decode cL_law 2683 = .ok (.iload 7, 2) := by decide +kernel
theorem dL_law_2685 : decode cL_law 2685 = .ok (.i2l, 1) := by decide +kernel
theorem dL_law_2686 : decode cL_law 2686 = .ok (.lcmp, 1) := by decide +kernel
theorem dL_law_2687 : decode cL_law 2687 = .ok (.ifCond .eq 5, 3) := by decide +kernel
theorem dL_law_2690 : decode cL_law 2690 = .ok (.iconst 0, 1) := by decide +kernel
theorem dL_law_2691 : decode cL_law 2691 = .ok (.ireturn, 1) := by decide +kernel
theorem dL_law_2692 : decode cL_law 2692 = .ok (.goto 328, 3) := by decide +kernel
theorem dL_law_2695 : decode cL_law 2695 = .ok (.aload_n 1, 1) := by decide +kernel
theorem dL_law_2696 : decode cL_law 2696 = .ok (.aload_n 0, 1) := by decide +kernel
theorem dL_law_2697 : decode cL_law 2697 = .ok (.iload 5, 2) := by decide +kernel
theorem dL_law_2699 : decode cL_law 2699 = .ok (.iconst 1, 1) := by decide +kernel
theorem dL_law_2700 : decode cL_law 2700 = .ok (.iadd, 1) := by decide +kernel
theorem dL_law_2701 : decode cL_law 2701 = .ok (.iaload, 1) := by decide +kernel
theorem dL_law_2702 : decode cL_law 2702 = .ok (.aload_n 3, 1) := by decide +kernel
theorem dL_law_2703 : decode cL_law 2703 = .ok (.invokestatic 316, 3) := by decide +kernel
theorem dL_law_2706 : decode cL_law 2706 = .ok (.istore 6, 2) := by decide +kernel
theorem dL_law_2708 : decode cL_law 2708 = .ok (.aload_n 2, 1) := by decide +kernel
theorem dL_law_2709 : decode cL_law 2709 = .ok (.aload_n 0, 1) := by decide +kernel
theorem dL_law_2710 : decode cL_law 2710 = .ok (.iload 5, 2) := by decide +kernel
theorem dL_law_2712 : decode cL_law 2712 = .ok (.iconst 1, 1) := by decide +kernel
theorem dL_law_2713 : decode cL_law 2713 = .ok (.iadd, 1) := by decide +kernel
theorem dL_law_2714 : decode cL_law 2714 = .ok (.iaload, 1) := by decide +kernel
theorem dL_law_2715 : decode cL_law 2715 = .ok (.invokevirtual 318, 3) := by decide +kernel
theorem dL_law_2718 : decode cL_law 2718 = .ok (.istore 7, 2) := by decide +kernel
theorem dL_law_2720 : decode cL_law 2720 = .ok (.aload_n 2, 1) := by decide +kernel
theorem dL_law_2721 : decode cL_law 2721 = .ok (.invokevirtual 174, 3) := by decide +kernel
theorem dL_law_2724 : decode cL_law 2724 = .ok (.iload 6, 2) := by decide +kernel
theorem dL_law_2726 : decode cL_law 2726 = .ok (.if_icmp .eq 5, 3) := by decide +kernel
theorem dL_law_2729 : decode cL_law 2729 = .ok (.iconst 0, 1) := by decide +kernel
theorem dL_law_2730 : decode cL_law 2730 = .ok (.ireturn, 1) := by decide +kernel
theorem dL_law_2731 : decode cL_law 2731 = .ok (.iload 6, 2) := by decide +kernel
theorem dL_law_2733 : decode cL_law 2733 = .ok (.ifCond .ne 15, 3) := by decide +kernel
theorem dL_law_2736 : decode cL_law 2736 = .ok (.aload_n 3, 1) := by decide +kernel
theorem dL_law_2737 : decode cL_law 2737 = .ok (.iconst 0, 1) := by decide +kernel
theorem dL_law_2738 : decode cL_law 2738 = .ok (.laload, 1) := by decide +kernel
theorem dL_law_2739 : decode cL_law 2739 = .ok (.iload 7, 2) := by decide +kernel
theorem dL_law_2741 : decode cL_law 2741 = .ok (.i2l, 1) := by decide +kernel
theorem dL_law_2742 : decode cL_law 2742 = .ok (.lcmp, 1) := by decide +kernel
theorem dL_law_2743 : decode cL_law 2743 = .ok (.ifCond .eq 5, 3) := by decide +kernel
theorem dL_law_2746 : decode cL_law 2746 = .ok (.iconst 0, 1) := by decide +kernel
theorem dL_law_2747 : decode cL_law 2747 = .ok (.ireturn, 1) := by decide +kernel
theorem dL_law_2748 : decode cL_law 2748 = .ok (.goto 272, 3) := by decide +kernel
theorem dL_law_2751 : decode cL_law 2751 = .ok (.aload_n 1, 1) := by decide +kernel
theorem dL_law_2752 : decode cL_law 2752 = .ok (.aload_n 0, 1) := by decide +kernel
theorem dL_law_2753 : decode cL_law 2753 = .ok (.iload 5, 2) := by decide +kernel
theorem dL_law_2755 : decode cL_law 2755 = .ok (.iconst 1, 1) := by decide +kernel
theorem dL_law_2756 : decode cL_law 2756 = .ok (.iadd, 1) := by decide +kernel
theorem dL_law_2757 : decode cL_law 2757 = .ok (.iaload, 1) := by decide +kernel
theorem dL_law_2758 : decode cL_law 2758 = .ok (.aload_n 3, 1) := by decide +kernel
theorem dL_law_2759 : decode cL_law 2759 = .ok (.invokestatic 319, 3) := by decide +kernel
theorem dL_law_2762 : decode cL_law 2762 = .ok (.istore 6, 2) := by decide +kernel
theorem dL_law_2764 : decode cL_law 2764 = .ok (.aload_n 2, 1) := by decide +kernel
theorem dL_law_2765 : decode cL_law 2765 = .ok (.aload_n 0, 1) := by decide +kernel
theorem dL_law_2766 : decode cL_law 2766 = .ok (.iload 5, 2) := by decide +kernel
theorem dL_law_2768 : decode cL_law 2768 = .ok (.iconst 1, 1) := by decide +kernel
theorem dL_law_2769 : decode cL_law 2769 = .ok (.iadd, 1) := by decide +kernel
theorem dL_law_2770 : decode cL_law 2770 = .ok (.iaload, 1) := by decide +kernel
theorem dL_law_2771 : decode cL_law 2771 = .ok (.invokevirtual 321, 3) := by decide +kernel
theorem dL_law_2774 : decode cL_law 2774 = .ok (.istore 7, 2) := by decide +kernel
theorem dL_law_2776 : decode cL_law 2776 = .ok (.aload_n 2, 1) := by decide +kernel
theorem dL_law_2777 : decode cL_law 2777 = .ok (.invokevirtual 174, 3) := by decide +kernel
theorem dL_law_2780 : decode cL_law 2780 = .ok (.iload 6, 2) := by decide +kernel
theorem dL_law_2782 : decode cL_law 2782 = .ok (.if_icmp .eq 5, 3) := by decide +kernel
theorem dL_law_2785 : decode cL_law 2785 = .ok (.iconst 0, 1) := by decide +kernel
theorem dL_law_2786 : decode cL_law 2786 = .ok (.ireturn, 1) := by decide +kernel
theorem dL_law_2787 : decode cL_law 2787 = .ok (.iload 6, 2) := by decide +kernel
theorem dL_law_2789 : decode cL_law 2789 = .ok (.ifCond .ne 22, 3) := by decide +kernel
theorem dL_law_2792 : decode cL_law 2792 = .ok (.aload_n 3, 1) := by decide +kernel
theorem dL_law_2793 : decode cL_law 2793 = .ok (.iconst 0, 1) := by decide +kernel
theorem dL_law_2794 : decode cL_law 2794 = .ok (.laload, 1) := by decide +kernel
theorem dL_law_2795 : decode cL_law 2795 = .ok (.iload 7, 2) := by decide +kernel
theorem dL_law_2797 : decode cL_law 2797 = .ok (.ifCond .eq 7, 3) := by decide +kernel
theorem dL_law_2800 : decode cL_law 2800 = .ok (.lconst 1, 1) := by decide +kernel
theorem dL_law_2801 : decode cL_law 2801 = .ok (.goto 4, 3) := by decide +kernel
theorem dL_law_2804 : decode cL_law 2804 = .ok (.lconst 0, 1) := by decide +kernel
theorem dL_law_2805 : decode cL_law 2805 = .ok (.lcmp, 1) := by decide +kernel
theorem dL_law_2806 : decode cL_law 2806 = .ok (.ifCond .eq 5, 3) := by decide +kernel
theorem dL_law_2809 : decode cL_law 2809 = .ok (.iconst 0, 1) := by decide +kernel
theorem dL_law_2810 : decode cL_law 2810 = .ok (.ireturn, 1) := by decide +kernel
theorem dL_law_2811 : decode cL_law 2811 = .ok (.goto 209, 3) := by decide +kernel
theorem dL_law_2814 : decode cL_law 2814 = .ok (.aload_n 1, 1) := by decide +kernel
theorem dL_law_2815 : decode cL_law 2815 = .ok (.aload_n 0, 1) := by decide +kernel
theorem dL_law_2816 : decode cL_law 2816 = .ok (.iload 5, 2) := by decide +kernel
theorem dL_law_2818 : decode cL_law 2818 = .ok (.iconst 1, 1) := by decide +kernel
theorem dL_law_2819 : decode cL_law 2819 = .ok (.iadd, 1) := by decide +kernel
theorem dL_law_2820 : decode cL_law 2820 = .ok (.iaload, 1) := by decide +kernel
theorem dL_law_2821 : decode cL_law 2821 = .ok (.aload_n 3, 1) := by decide +kernel
theorem dL_law_2822 : decode cL_law 2822 = .ok (.invokestatic 322, 3) := by decide +kernel
theorem dL_law_2825 : decode cL_law 2825 = .ok (.istore 6, 2) := by decide +kernel
theorem dL_law_2827 : decode cL_law 2827 = .ok (.aload_n 2, 1) := by decide +kernel
theorem dL_law_2828 : decode cL_law 2828 = .ok (.aload_n 0, 1) := by decide +kernel
theorem dL_law_2829 : decode cL_law 2829 = .ok (.iload 5, 2) := by decide +kernel
theorem dL_law_2831 : decode cL_law 2831 = .ok (.iconst 1, 1) := by decide +kernel
theorem dL_law_2832 : decode cL_law 2832 = .ok (.iadd, 1) := by decide +kernel
theorem dL_law_2833 : decode cL_law 2833 = .ok (.iaload, 1) := by decide +kernel
theorem dL_law_2834 : decode cL_law 2834 = .ok (.invokevirtual 324, 3) := by decide +kernel
theorem dL_law_2837 : decode cL_law 2837 = .ok (.istore 7, 2) := by decide +kernel
theorem dL_law_2839 : decode cL_law 2839 = .ok (.aload_n 2, 1) := by decide +kernel
theorem dL_law_2840 : decode cL_law 2840 = .ok (.invokevirtual 174, 3) := by decide +kernel
theorem dL_law_2843 : decode cL_law 2843 = .ok (.iload 6, 2) := by decide +kernel
theorem dL_law_2845 : decode cL_law 2845 = .ok (.if_icmp .eq 5, 3) := by decide +kernel
theorem dL_law_2848 : decode cL_law 2848 = .ok (.iconst 0, 1) := by decide +kernel
theorem dL_law_2849 : decode cL_law 2849 = .ok (.ireturn, 1) := by decide +kernel
theorem dL_law_2850 : decode cL_law 2850 = .ok (.iload 6, 2) := by decide +kernel
theorem dL_law_2852 : decode cL_law 2852 = .ok (.ifCond .ne 22, 3) := by decide +kernel
theorem dL_law_2855 : decode cL_law 2855 = .ok (.aload_n 3, 1) := by decide +kernel
theorem dL_law_2856 : decode cL_law 2856 = .ok (.iconst 0, 1) := by decide +kernel
theorem dL_law_2857 : decode cL_law 2857 = .ok (.laload, 1) := by decide +kernel
theorem dL_law_2858 : decode cL_law 2858 = .ok (.iload 7, 2) := by decide +kernel
theorem dL_law_2860 : decode cL_law 2860 = .ok (.ifCond .eq 7, 3) := by decide +kernel
theorem dL_law_2863 : decode cL_law 2863 = .ok (.lconst 1, 1) := by decide +kernel
theorem dL_law_2864 : decode cL_law 2864 = .ok (.goto 4, 3) := by decide +kernel
theorem dL_law_2867 : decode cL_law 2867 = .ok (.lconst 0, 1) := by decide +kernel
theorem dL_law_2868 : decode cL_law 2868 = .ok (.lcmp, 1) := by decide +kernel
theorem dL_law_2869 : decode cL_law 2869 = .ok (.ifCond .eq 5, 3) := by decide +kernel
theorem dL_law_2872 : decode cL_law 2872 = .ok (.iconst 0, 1) := by decide +kernel
theorem dL_law_2873 : decode cL_law 2873 = .ok (.ireturn, 1) := by decide +kernel
theorem dL_law_2874 : decode cL_law 2874 = .ok (.goto 146, 3) := by decide +kernel
theorem dL_law_2877 : decode cL_law 2877 = .ok (.aload_n 1, 1) := by decide +kernel
theorem dL_law_2878 : decode cL_law 2878 = .ok (.aload_n 0, 1) := by decide +kernel
theorem dL_law_2879 : decode cL_law 2879 = .ok (.iload 5, 2) := by decide +kernel
theorem dL_law_2881 : decode cL_law 2881 = .ok (.iconst 1, 1) := by decide +kernel
theorem dL_law_2882 : decode cL_law 2882 = .ok (.iadd, 1) := by decide +kernel
theorem dL_law_2883 : decode cL_law 2883 = .ok (.iaload, 1) := by decide +kernel
theorem dL_law_2884 : decode cL_law 2884 = .ok (.aload 4, 2) := by decide +kernel
theorem dL_law_2886 : decode cL_law 2886 = .ok (.invokestatic 325, 3) := by decide +kernel
theorem dL_law_2889 : decode cL_law 2889 = .ok (.istore 6, 2) := by decide +kernel
theorem dL_law_2891 : decode cL_law 2891 = .ok (.aload_n 2, 1) := by decide +kernel
theorem dL_law_2892 : decode cL_law 2892 = .ok (.aload_n 0, 1) := by decide +kernel
theorem dL_law_2893 : decode cL_law 2893 = .ok (.iload 5, 2) := by decide +kernel
theorem dL_law_2895 : decode cL_law 2895 = .ok (.iconst 1, 1) := by decide +kernel
theorem dL_law_2896 : decode cL_law 2896 = .ok (.iadd, 1) := by decide +kernel
theorem dL_law_2897 : decode cL_law 2897 = .ok (.iaload, 1) := by decide +kernel
theorem dL_law_2898 : decode cL_law 2898 = .ok (.invokevirtual 328, 3) := by decide +kernel
theorem dL_law_2901 : decode cL_law 2901 = .ok (.fstore 7, 2) := by decide +kernel
theorem dL_law_2903 : decode cL_law 2903 = .ok (.aload_n 2, 1) := by decide +kernel
theorem dL_law_2904 : decode cL_law 2904 = .ok (.invokevirtual 174, 3) := by decide +kernel
theorem dL_law_2907 : decode cL_law 2907 = .ok (.iload 6, 2) := by decide +kernel
theorem dL_law_2909 : decode cL_law 2909 = .ok (.if_icmp .eq 5, 3) := by decide +kernel
theorem dL_law_2912 : decode cL_law 2912 = .ok (.iconst 0, 1) := by decide +kernel
theorem dL_law_2913 : decode cL_law 2913 = .ok (.ireturn, 1) := by decide +kernel
theorem dL_law_2914 : decode cL_law 2914 = .ok (.iload 6, 2) := by decide +kernel
theorem dL_law_2916 : decode cL_law 2916 = .ok (.ifCond .ne 36, 3) := by decide +kernel
theorem dL_law_2919 : decode cL_law 2919 = .ok (.aload 4, 2) := by decide +kernel
theorem dL_law_2921 : decode cL_law 2921 = .ok (.iconst 0, 1) := by decide +kernel
theorem dL_law_2922 : decode cL_law 2922 = .ok (.daload, 1) := by decide +kernel
theorem dL_law_2923 : decode cL_law 2923 = .ok (.fload 7, 2) := by decide +kernel
theorem dL_law_2925 : decode cL_law 2925 = .ok (.f2d, 1) := by decide +kernel
theorem dL_law_2926 : decode cL_law 2926 = .ok (.dcmp .l, 1) := by decide +kernel
theorem dL_law_2927 : decode cL_law 2927 = .ok (.ifCond .eq 25, 3) := by decide +kernel
theorem dL_law_2930 : decode cL_law 2930 = .ok (.aload 4, 2) := by decide +kernel
theorem dL_law_2932 : decode cL_law 2932 = .ok (.iconst 0, 1) := by decide +kernel
theorem dL_law_2933 : decode cL_law 2933 = .ok (.daload, 1) := by decide +kernel
theorem dL_law_2934 : decode cL_law 2934 = .ok (.aload 4, 2) := by decide +kernel
theorem dL_law_2936 : decode cL_law 2936 = .ok (.iconst 0, 1) := by decide +kernel
theorem dL_law_2937 : decode cL_law 2937 = .ok (.daload, 1) := by decide +kernel
theorem dL_law_2938 : decode cL_law 2938 = .ok (.dcmp .l, 1) := by decide +kernel
theorem dL_law_2939 : decode cL_law 2939 = .ok (.ifCond .eq 11, 3) := by decide +kernel
theorem dL_law_2942 : decode cL_law 2942 = .ok (.fload 7, 2) := by decide +kernel
theorem dL_law_2944 : decode cL_law 2944 = .ok (.fload 7, 2) := by decide +kernel
theorem dL_law_2946 : decode cL_law 2946 = .ok (.fcmp .l, 1) := by decide +kernel
theorem dL_law_2947 : decode cL_law 2947 = .ok (.ifCond .ne 5, 3) := by decide +kernel
theorem dL_law_2950 : decode cL_law 2950 = .ok (.iconst 0, 1) := by decide +kernel
theorem dL_law_2951 : decode cL_law 2951 = .ok (.ireturn, 1) := by decide +kernel
theorem dL_law_2952 : decode cL_law 2952 = .ok (.goto 68, 3) := by decide +kernel
theorem dL_law_2955 : decode cL_law 2955 = .ok (.aload_n 1, 1) := by decide +kernel
theorem dL_law_2956 : decode cL_law 2956 = .ok (.aload 4, 2) := by decide +kernel
theorem dL_law_2958 : decode cL_law 2958 = .ok (.invokestatic 329, 3) := by decide +kernel
theorem dL_law_2961 : decode cL_law 2961 = .ok (.istore 6, 2) := by decide +kernel
theorem dL_law_2963 : decode cL_law 2963 = .ok (.aload_n 2, 1) := by decide +kernel
theorem dL_law_2964 : decode cL_law 2964 = .ok (.invokevirtual 332, 3) := by decide +kernel
theorem dL_law_2967 : decode cL_law 2967 = .ok (.dstore 7, 2) := by decide +kernel
theorem dL_law_2969 : decode cL_law 2969 = .ok (.aload_n 2, 1) := by decide +kernel
theorem dL_law_2970 : decode cL_law 2970 = .ok (.invokevirtual 174, 3) := by decide +kernel
theorem dL_law_2973 : decode cL_law 2973 = .ok (.iload 6, 2) := by decide +kernel
theorem dL_law_2975 : decode cL_law 2975 = .ok (.if_icmp .eq 5, 3) := by decide +kernel
theorem dL_law_2978 : decode cL_law 2978 = .ok (.iconst 0, 1) := by decide +kernel
theorem dL_law_2979 : decode cL_law 2979 = .ok (.ireturn, 1) := by decide +kernel
theorem dL_law_2980 : decode cL_law 2980 = .ok (.iload 6, 2) := by decide +kernel
theorem dL_law_2982 : decode cL_law 2982 = .ok (.ifCond .ne 35, 3) := by decide +kernel
theorem dL_law_2985 : decode cL_law 2985 = .ok (.aload 4, 2) := by decide +kernel
theorem dL_law_2987 : decode cL_law 2987 = .ok (.iconst 0, 1) := by decide +kernel
theorem dL_law_2988 : decode cL_law 2988 = .ok (.daload, 1) := by decide +kernel
theorem dL_law_2989 : decode cL_law 2989 = .ok (.dload 7, 2) := by decide +kernel
theorem dL_law_2991 : decode cL_law 2991 = .ok (.dcmp .l, 1) := by decide +kernel
theorem dL_law_2992 : decode cL_law 2992 = .ok (.ifCond .eq 25, 3) := by decide +kernel
theorem dL_law_2995 : decode cL_law 2995 = .ok (.aload 4, 2) := by decide +kernel
theorem dL_law_2997 : decode cL_law 2997 = .ok (.iconst 0, 1) := by decide +kernel
theorem dL_law_2998 : decode cL_law 2998 = .ok (.daload, 1) := by decide +kernel
theorem dL_law_2999 : decode cL_law 2999 = .ok (.aload 4, 2) := by decide +kernel
theorem dL_law_3001 : decode cL_law 3001 = .ok (.iconst 0, 1) := by decide +kernel
theorem dL_law_3002 : decode cL_law 3002 = .ok (.daload, 1) := by decide +kernel
theorem dL_law_3003 : decode cL_law 3003 = .ok (.dcmp .l, 1) := by decide +kernel
theorem dL_law_3004 : decode cL_law 3004 = .ok (.ifCond .eq 11, 3) := by decide +kernel
theorem dL_law_3007 : decode cL_law 3007 = .ok (.dload 7, 2) := by decide +kernel
theorem dL_law_3009 : decode cL_law 3009 = .ok (.dload 7, 2) := by decide +kernel
theorem dL_law_3011 : decode cL_law 3011 = .ok (.dcmp .l, 1) := by decide +kernel
theorem dL_law_3012 : decode cL_law 3012 = .ok (.ifCond .ne 5, 3) := by decide +kernel
theorem dL_law_3015 : decode cL_law 3015 = .ok (.iconst 0, 1) := by decide +kernel
theorem dL_law_3016 : decode cL_law 3016 = .ok (.ireturn, 1) := by decide +kernel
theorem dL_law_3017 : decode cL_law 3017 = .ok (.goto 3, 3) := by decide +kernel
theorem dL_law_3020 : decode cL_law 3020 = .ok (.iinc 5 4, 3) := by decide +kernel
theorem dL_law_3023 : decode cL_law 3023 = .ok (.goto (-2995), 3) := by decide +kernel
theorem dL_law_3026 : decode cL_law 3026 = .ok (.iconst 1, 1) := by decide +kernel
theorem dL_law_3027 : decode cL_law 3027 = .ok (.ireturn, 1) := by decide +kernel

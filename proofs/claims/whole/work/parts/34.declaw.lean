theorem dL_law__0 : decode cL_law_ 0 = .ok (.new 8, 3) := by decide +kernel
theorem dL_law__3 : decode cL_law_ 3 = .ok (.dup, 1) := by decide +kernel
theorem dL_law__4 : decode cL_law_ 4 = .ok (.invokespecial 119, 3) := by decide +kernel
theorem dL_law__7 : decode cL_law_ 7 = .ok (.astore_n 1, 1) := by decide +kernel
theorem dL_law__8 : decode cL_law_ 8 = .ok (.new 120, 3) := by decide +kernel
theorem dL_law__11 : decode cL_law_ 11 = .ok (.dup, 1) := by decide +kernel
theorem dL_law__12 : decode cL_law_ 12 = .ok (.invokespecial 122, 3) := by decide +kernel
theorem dL_law__15 : decode cL_law_ 15 = .ok (.astore_n 2, 1) := by decide +kernel
theorem dL_law__16 : decode cL_law_ 16 = .ok (.iconst 1, 1) := by decide +kernel
theorem dL_law__17 : decode cL_law_ 17 = .ok (.newarray .long, 2) := by decide +kernel
theorem dL_law__19 : decode cL_law_ 19 = .ok (.astore_n 3, 1) := by decide +kernel
theorem dL_law__20 : decode cL_law_ 20 = .ok (.iconst 0, 1) := by decide +kernel
theorem dL_law__21 : decode cL_law_ 21 = .ok (.istore 4, 2) := by decide +kernel
theorem dL_law__23 : decode cL_law_ 23 = .ok (.iload 4, 2) := by decide +kernel
theorem dL_law__25 : decode cL_law_ 25 = .ok (.aload_n 0, 1) := by decide +kernel
theorem dL_law__26 : decode cL_law_ 26 = .ok (.arraylength, 1) := by decide +kernel
theorem dL_law__27 : decode cL_law_ 27 = .ok (.bipush 9, 2) := by decide +kernel
theorem dL_law__29 : decode cL_law_ 29 = .ok (.isub, 1) := by decide +kernel
theorem dL_law__30 : decode cL_law_ 30 = .ok (.if_icmp .gt 2641, 3) := by decide +kernel
theorem dL_law__33 : decode cL_law_ 33 = .ok (.aload_n 0, 1) := by decide +kernel
theorem dL_law__34 : decode cL_law_ 34 = .ok (.iload 4, 2) := by decide +kernel
theorem dL_law__36 : decode cL_law_ 36 = .ok (.iaload, 1) := by decide +kernel
theorem dL_law__37 : decode cL_law_ 37 = .ok (.bipush 63, 2) := by decide +kernel
theorem dL_law__39 : decode cL_law_ 39 = .ok (.iand, 1) := by decide +kernel
theorem dL_law__40 : decode cL_law_ 40 = .ok (.tableswitch 2625 0 40 #[180, 253, 309, 365, 421, 477, 533, 546, 559, 615, 683, 751, 819, 887, 955, 1101, 1157, 1225, 1293, 1349, 1417, 1497, 1577, 1669, 1761, 1841, 1921, 1934, 1990, 2015, 2071, 2146, 2202, 2270, 2326, 2339, 2431, 2549, 2562, 2575, 2600], 180) := by decide +kernel
theorem dL_law__220 : decode cL_law_ 220 = .ok (.aload_n 1, 1) := by decide +kernel
theorem dL_law__221 : decode cL_law_ 221 = .ok (.aload_n 0, 1) := by decide +kernel
theorem dL_law__222 : decode cL_law_ 222 = .ok (.iload 4, 2) := by decide +kernel
theorem dL_law__224 : decode cL_law_ 224 = .ok (.iconst 1, 1) := by decide +kernel
theorem dL_law__225 : decode cL_law_ 225 = .ok (.iadd, 1) := by decide +kernel
theorem dL_law__226 : decode cL_law_ 226 = .ok (.iaload, 1) := by decide +kernel
theorem dL_law__227 : decode cL_law_ 227 = .ok (.aload_n 0, 1) := by decide +kernel
theorem dL_law__228 : decode cL_law_ 228 = .ok (.iload 4, 2) := by decide +kernel
theorem dL_law__230 : decode cL_law_ 230 = .ok (.iconst 2, 1) := by decide +kernel
theorem dL_law__231 : decode cL_law_ 231 = .ok (.iadd, 1) := by decide +kernel
theorem dL_law__232 : decode cL_law_ 232 = .ok (.iaload, 1) := by decide +kernel
theorem dL_law__233 : decode cL_law_ 233 = .ok (.aload_n 0, 1) := by decide +kernel
theorem dL_law__234 : decode cL_law_ 234 = .ok (.iload 4, 2) := by decide +kernel
theorem dL_law__236 : decode cL_law_ 236 = .ok (.iconst 3, 1) := by decide +kernel
theorem dL_law__237 : decode cL_law_ 237 = .ok (.iadd, 1) := by decide +kernel
theorem dL_law__238 : decode cL_law_ 238 = .ok (.iaload, 1) := by decide +kernel
theorem dL_law__239 : decode cL_law_ 239 = .ok (.aload_n 0, 1) := by decide +kernel
theorem dL_law__240 : decode cL_law_ 240 = .ok (.iload 4, 2) := by decide +kernel
theorem dL_law__242 : decode cL_law_ 242 = .ok (.iconst 4, 1) := by decide +kernel
theorem dL_law__243 : decode cL_law_ 243 = .ok (.iadd, 1) := by decide +kernel
theorem dL_law__244 : decode cL_law_ 244 = .ok (.iaload, 1) := by decide +kernel
theorem dL_law__245 : decode cL_law_ 245 = .ok (.aload_n 0, 1) := by decide +kernel
theorem dL_law__246 : decode cL_law_ 246 = .ok (.iload 4, 2) := by decide +kernel
theorem dL_law__248 : decode cL_law_ 248 = .ok (.iconst 5, 1) := by decide +kernel
theorem dL_law__249 : decode cL_law_ 249 = .ok (.iadd, 1) := by decide +kernel
theorem dL_law__250 : decode cL_law_ 250 = .ok (.iaload, 1) := by decide +kernel
theorem dL_law__251 : decode cL_law_ 251 = .ok (.invokevirtual 123, 3) := by decide +kernel
theorem dL_law__254 : decode cL_law_ 254 = .ok (.aload_n 2, 1) := by decide +kernel
theorem dL_law__255 : decode cL_law_ 255 = .ok (.aload_n 0, 1) := by decide +kernel
theorem dL_law__256 : decode cL_law_ 256 = .ok (.iload 4, 2) := by decide +kernel
theorem dL_law__258 : decode cL_law_ 258 = .ok (.iconst 1, 1) := by decide +kernel
theorem dL_law__259 : decode cL_law_ 259 = .ok (.iadd, 1) := by decide +kernel
theorem dL_law__260 : decode cL_law_ 260 = .ok (.iaload, 1) := by decide +kernel
theorem dL_law__261 : decode cL_law_ 261 = .ok (.aload_n 0, 1) := by decide +kernel
theorem dL_law__262 : decode cL_law_ 262 = .ok (.iload 4, 2) := by decide +kernel
theorem dL_law__264 : decode cL_law_ 264 = .ok (.iconst 2, 1) := by decide +kernel
theorem dL_law__265 : decode cL_law_ 265 = .ok (.iadd, 1) := by decide +kernel
theorem dL_law__266 : decode cL_law_ 266 = .ok (.iaload, 1) := by decide +kernel
theorem dL_law__267 : decode cL_law_ 267 = .ok (.aload_n 0, 1) := by decide +kernel
theorem dL_law__268 : decode cL_law_ 268 = .ok (.iload 4, 2) := by decide +kernel
theorem dL_law__270 : decode cL_law_ 270 = .ok (.iconst 3, 1) := by decide +kernel
theorem dL_law__271 : decode cL_law_ 271 = .ok (.iadd, 1) := by decide +kernel
theorem dL_law__272 : decode cL_law_ 272 = .ok (.iaload, 1) := by decide +kernel
theorem dL_law__273 : decode cL_law_ 273 = .ok (.aload_n 0, 1) := by decide +kernel
theorem dL_law__274 : decode cL_law_ 274 = .ok (.iload 4, 2) := by decide +kernel
theorem dL_law__276 : decode cL_law_ 276 = .ok (.iconst 4, 1) := by decide +kernel
theorem dL_law__277 : decode cL_law_ 277 = .ok (.iadd, 1) := by decide +kernel
theorem dL_law__278 : decode cL_law_ 278 = .ok (.iaload, 1) := by decide +kernel
theorem dL_law__279 : decode cL_law_ 279 = .ok (.aload_n 0, 1) := by decide +kernel
theorem dL_law__280 : decode cL_law_ 280 = .ok (.iload 4, 2) := by decide +kernel
theorem dL_law__282 : decode cL_law_ 282 = .ok (.iconst 5, 1) := by decide +kernel
theorem dL_law__283 : decode cL_law_ 283 = .ok (.iadd, 1) := by decide +kernel
theorem dL_law__284 : decode cL_law_ 284 = .ok (.iaload, 1) := by decide +kernel
theorem dL_law__285 : decode cL_law_ 285 = .ok (.invokevirtual 127, 3) := by decide +kernel
theorem dL_law__288 : decode cL_law_ 288 = .ok (.if_icmp .eq 2377, 3) := by decide +kernel
theorem dL_law__291 : decode cL_law_ 291 = .ok (.iconst 0, 1) := by decide +kernel
theorem dL_law__292 : decode cL_law_ 292 = .ok (.ireturn, 1) := by decide +kernel
theorem dL_law__293 : decode cL_law_ 293 = .ok (.aload_n 1, 1) := by decide +kernel
theorem dL_law__294 : decode cL_law_ 294 = .ok (.aload_n 0, 1) := by decide +kernel
theorem dL_law__295 : decode cL_law_ 295 = .ok (.iload 4, 2) := by decide +kernel
theorem dL_law__297 : decode cL_law_ 297 = .ok (.iconst 1, 1) := by decide +kernel
theorem dL_law__298 : decode cL_law_ 298 = .ok (.iadd, 1) := by decide +kernel
theorem dL_law__299 : decode cL_law_ 299 = .ok (.iaload, 1) := by decide +kernel
theorem dL_law__300 : decode cL_law_ 300 = .ok (.aload_n 3, 1) := by decide +kernel
theorem dL_law__301 : decode cL_law_ 301 = .ok (.invokestatic 128, 3) := by decide +kernel
theorem dL_law__304 : decode cL_law_ 304 = .ok (.istore 5, 2) := by decide +kernel
theorem dL_law__306 : decode cL_law_ 306 = .ok (.aload_n 2, 1) := by decide +kernel
theorem dL_law__307 : decode cL_law_ 307 = .ok (.aload_n 0, 1) := by decide +kernel
theorem dL_law__308 : decode cL_law_ 308 = .ok (.iload 4, 2) := by decide +kernel
theorem dL_law__310 : decode cL_law_ 310 = .ok (.iconst 1, 1) := by decide +kernel
theorem dL_law__311 : decode cL_law_ 311 = .ok (.iadd, 1) := by decide +kernel
theorem dL_law__312 : decode cL_law_ 312 = .ok (.iaload, 1) := by decide +kernel
theorem dL_law__313 : decode cL_law_ 313 = .ok (.invokevirtual 133, 3) := by decide +kernel
theorem dL_law__316 : decode cL_law_ 316 = .ok (.istore 6, 2) := by decide +kernel
theorem dL_law__318 : decode cL_law_ 318 = .ok (.aload_n 2, 1) := by decide +kernel
theorem dL_law__319 : decode cL_law_ 319 = .ok (.invokevirtual 134, 3) := by decide +kernel
theorem dL_law__322 : decode cL_law_ 322 = .ok (.iload 5, 2) := by decide +kernel
theorem dL_law__324 : decode cL_law_ 324 = .ok (.if_icmp .eq 5, 3) := by decide +kernel
theorem dL_law__327 : decode cL_law_ 327 = .ok (.iconst 0, 1) := by decide +kernel
theorem dL_law__328 : decode cL_law_ 328 = .ok (.ireturn, 1) := by decide +kernel
theorem dL_law__329 : decode cL_law_ 329 = .ok (.iload 5, 2) := by decide +kernel
theorem dL_law__331 : decode cL_law_ 331 = .ok (.ifCond .ne 15, 3) := by decide +kernel
theorem dL_law__334 : decode cL_law_ 334 = .ok (.aload_n 3, 1) := by decide +kernel
theorem dL_law__335 : decode cL_law_ 335 = .ok (.iconst 0, 1) := by decide +kernel
theorem dL_law__336 : decode cL_law_ 336 = .ok (.laload, 1) := by decide +kernel
theorem dL_law__337 : decode cL_law_ 337 = .ok (.iload 6, 2) := by decide +kernel
theorem dL_law__339 : decode cL_law_ 339 = .ok (.i2l, 1) := by decide +kernel
theorem dL_law__340 : decode cL_law_ 340 = .ok (.lcmp, 1) := by decide +kernel
theorem dL_law__341 : decode cL_law_ 341 = .ok (.ifCond .eq 5, 3) := by decide +kernel
theorem dL_law__344 : decode cL_law_ 344 = .ok (.iconst 0, 1) := by decide +kernel
theorem dL_law__345 : decode cL_law_ 345 = .ok (.ireturn, 1) := by decide +kernel
theorem dL_law__346 : decode cL_law_ 346 = .ok (.goto 2319, 3) := by decide +kernel
theorem dL_law__349 : decode cL_law_ 349 = .ok (.aload_n 1, 1) := by decide +kernel
theorem dL_law__350 : decode cL_law_ 350 = .ok (.aload_n 0, 1) := by decide +kernel
theorem dL_law__351 : decode cL_law_ 351 = .ok (.iload 4, 2) := by decide +kernel
theorem dL_law__353 : decode cL_law_ 353 = .ok (.iconst 1, 1) := by decide +kernel
theorem dL_law__354 : decode cL_law_ 354 = .ok (.iadd, 1) := by decide +kernel
theorem dL_law__355 : decode cL_law_ 355 = .ok (.iaload, 1) := by decide +kernel
theorem dL_law__356 : decode cL_law_ 356 = .ok (.aload_n 3, 1) := by decide +kernel
theorem dL_law__357 : decode cL_law_ 357 = .ok (.invokestatic 138, 3) := by decide +kernel
theorem dL_law__360 : decode cL_law_ 360 = .ok (.istore 5, 2) := by decide +kernel
theorem dL_law__362 : decode cL_law_ 362 = .ok (.aload_n 2, 1) := by decide +kernel
theorem dL_law__363 : decode cL_law_ 363 = .ok (.aload_n 0, 1) := by decide +kernel
theorem dL_law__364 : decode cL_law_ 364 = .ok (.iload 4, 2) := by decide +kernel
theorem dL_law__366 : decode cL_law_ 366 = .ok (.iconst 1, 1) := by decide +kernel
theorem dL_law__367 : decode cL_law_ 367 = .ok (.iadd, 1) := by decide +kernel
theorem dL_law__368 : decode cL_law_ 368 = .ok (.iaload, 1) := by decide +kernel
theorem dL_law__369 : decode cL_law_ 369 = .ok (.invokevirtual 140, 3) := by decide +kernel
theorem dL_law__372 : decode cL_law_ 372 = .ok (.istore 6, 2) := by decide +kernel
theorem dL_law__374 : decode cL_law_ 374 = .ok (.aload_n 2, 1) := by decide +kernel
theorem dL_law__375 : decode cL_law_ 375 = .ok (.invokevirtual 134, 3) := by decide +kernel
theorem dL_law__378 : decode cL_law_ 378 = .ok (.iload 5, 2) := by decide +kernel
theorem dL_law__380 : decode cL_law_ 380 = .ok (.if_icmp .eq 5, 3) := by decide +kernel
theorem dL_law__383 : decode cL_law_ 383 = .ok (.iconst 0, 1) := by decide +kernel
theorem dL_law__384 : decode cL_law_ 384 = .ok (.ireturn, 1) := by decide +kernel
theorem dL_law__385 : decode cL_law_ 385 = .ok (.iload 5, 2) := by decide +kernel
theorem dL_law__387 : decode cL_law_ 387 = .ok (.ifCond .ne 15, 3) := by decide +kernel
theorem dL_law__390 : decode cL_law_ 390 = .ok (.aload_n 3, 1) := by decide +kernel
theorem dL_law__391 : decode cL_law_ 391 = .ok (.iconst 0, 1) := by decide +kernel
theorem dL_law__392 : decode cL_law_ 392 = .ok (.laload, 1) := by decide +kernel
theorem dL_law__393 : decode cL_law_ 393 = .ok (.iload 6, 2) := by decide +kernel
theorem dL_law__395 : decode cL_law_ 395 = .ok (.i2l, 1) := by decide +kernel
theorem dL_law__396 : decode cL_law_ 396 = .ok (.lcmp, 1) := by decide +kernel
theorem dL_law__397 : decode cL_law_ 397 = .ok (.ifCond .eq 5, 3) := by decide +kernel
theorem dL_law__400 : decode cL_law_ 400 = .ok (.iconst 0, 1) := by decide +kernel
theorem dL_law__401 : decode cL_law_ 401 = .ok (.ireturn, 1) := by decide +kernel
theorem dL_law__402 : decode cL_law_ 402 = .ok (.goto 2263, 3) := by decide +kernel
theorem dL_law__405 : decode cL_law_ 405 = .ok (.aload_n 1, 1) := by decide +kernel
theorem dL_law__406 : decode cL_law_ 406 = .ok (.aload_n 0, 1) := by decide +kernel
theorem dL_law__407 : decode cL_law_ 407 = .ok (.iload 4, 2) := by decide +kernel
theorem dL_law__409 : decode cL_law_ 409 = .ok (.iconst 1, 1) := by decide +kernel
theorem dL_law__410 : decode cL_law_ 410 = .ok (.iadd, 1) := by decide +kernel
theorem dL_law__411 : decode cL_law_ 411 = .ok (.iaload, 1) := by decide +kernel
theorem dL_law__412 : decode cL_law_ 412 = .ok (.aload_n 3, 1) := by decide +kernel
theorem dL_law__413 : decode cL_law_ 413 = .ok (.invokestatic 141, 3) := by decide +kernel
theorem dL_law__416 : decode cL_law_ 416 = .ok (.istore 5, 2) := by decide +kernel
theorem dL_law__418 : decode cL_law_ 418 = .ok (.aload_n 2, 1) := by decide +kernel
theorem dL_law__419 : decode cL_law_ 419 = .ok (.aload_n 0, 1) := by decide +kernel
theorem dL_law__420 : decode cL_law_ 420 = .ok (.iload 4, 2) := by decide +kernel
theorem dL_law__422 : decode cL_law_ 422 = .ok (.iconst 1, 1) := by decide +kernel
theorem dL_law__423 : decode cL_law_ 423 = .ok (.iadd, 1) := by decide +kernel
theorem dL_law__424 : decode cL_law_ 424 = .ok (.iaload, 1) := by decide +kernel
theorem dL_law__425 : decode cL_law_ 425 = .ok (.invokevirtual 143, 3) := by decide +kernel
theorem dL_law__428 : decode cL_law_ 428 = .ok (.istore 6, 2) := by decide +kernel
theorem dL_law__430 : decode cL_law_ 430 = .ok (.aload_n 2, 1) := by decide +kernel
theorem dL_law__431 : decode cL_law_ 431 = .ok (.invokevirtual 134, 3) := by decide +kernel
theorem dL_law__434 : decode cL_law_ 434 = .ok (.iload 5, 2) := by decide +kernel
theorem dL_law__436 : decode cL_law_ 436 = .ok (.if_icmp .eq 5, 3) := by decide +kernel
theorem dL_law__439 : decode cL_law_ 439 = .ok (.iconst 0, 1) := by decide +kernel
theorem dL_law__440 : decode cL_law_ 440 = .ok (.ireturn, 1) := by decide +kernel
theorem dL_law__441 : decode cL_law_ 441 = .ok (.iload 5, 2) := by decide +kernel
theorem dL_law__443 : decode cL_law_ 443 = .ok (.ifCond .ne 15, 3) := by decide +kernel
theorem dL_law__446 : decode cL_law_ 446 = .ok (.aload_n 3, 1) := by decide +kernel
theorem dL_law__447 : decode cL_law_ 447 = .ok (.iconst 0, 1) := by decide +kernel
theorem dL_law__448 : decode cL_law_ 448 = .ok (.laload, 1) := by decide +kernel
theorem dL_law__449 : decode cL_law_ 449 = .ok (.iload 6, 2) := by decide +kernel
theorem dL_law__451 : decode cL_law_ 451 = .ok (.i2l, 1) := by decide +kernel
theorem dL_law__452 : decode cL_law_ 452 = .ok (.lcmp, 1) := by decide +kernel
theorem dL_law__453 : decode cL_law_ 453 = .ok (.ifCond .eq 5, 3) := by decide +kernel
theorem dL_law__456 : decode cL_law_ 456 = .ok (.iconst 0, 1) := by decide +kernel
theorem dL_law__457 : decode cL_law_ 457 = .ok (.ireturn, 1) := by decide +kernel
theorem dL_law__458 : decode cL_law_ 458 = .ok (.goto 2207, 3) := by decide +kernel
theorem dL_law__461 : decode cL_law_ 461 = .ok (.aload_n 1, 1) := by decide +kernel
theorem dL_law__462 : decode cL_law_ 462 = .ok (.aload_n 0, 1) := by decide +kernel
theorem dL_law__463 : decode cL_law_ 463 = .ok (.iload 4, 2) := by decide +kernel
theorem dL_law__465 : decode cL_law_ 465 = .ok (.iconst 1, 1) := by decide +kernel
theorem dL_law__466 : decode cL_law_ 466 = .ok (.iadd, 1) := by decide +kernel
theorem dL_law__467 : decode cL_law_ 467 = .ok (.iaload, 1) := by decide +kernel
theorem dL_law__468 : decode cL_law_ 468 = .ok (.aload_n 3, 1) := by decide +kernel
theorem dL_law__469 : decode cL_law_ 469 = .ok (.invokestatic 144, 3) := by decide +kernel
theorem dL_law__472 : decode cL_law_ 472 = .ok (.istore 5, 2) := by decide +kernel
theorem dL_law__474 : decode cL_law_ 474 = .ok (.aload_n 2, 1) := by decide +kernel
theorem dL_law__475 : decode cL_law_ 475 = .ok (.aload_n 0, 1) := by decide +kernel
theorem dL_law__476 : decode cL_law_ 476 = .ok (.iload 4, 2) := by decide +kernel
theorem dL_law__478 : decode cL_law_ 478 = .ok (.iconst 1, 1) := by decide +kernel
theorem dL_law__479 : decode cL_law_ 479 = .ok (.iadd, 1) := by decide +kernel
theorem dL_law__480 : decode cL_law_ 480 = .ok (.iaload, 1) := by decide +kernel
theorem dL_law__481 : decode cL_law_ 481 = .ok (.invokevirtual 146, 3) := by decide +kernel
theorem dL_law__484 : decode cL_law_ 484 = .ok (.istore 6, 2) := by decide +kernel
theorem dL_law__486 : decode cL_law_ 486 = .ok (.aload_n 2, 1) := by decide +kernel
theorem dL_law__487 : decode cL_law_ 487 = .ok (.invokevirtual 134, 3) := by decide +kernel
theorem dL_law__490 : decode cL_law_ 490 = .ok (.iload 5, 2) := by decide +kernel
theorem dL_law__492 : decode cL_law_ 492 = .ok (.if_icmp .eq 5, 3) := by decide +kernel
theorem dL_law__495 : decode cL_law_ 495 = .ok (.iconst 0, 1) := by decide +kernel
theorem dL_law__496 : decode cL_law_ 496 = .ok (.ireturn, 1) := by decide +kernel
theorem dL_law__497 : decode cL_law_ 497 = .ok (.iload 5, 2) := by decide +kernel
theorem dL_law__499 : decode cL_law_ 499 = .ok (.ifCond .ne 15, 3) := by decide +kernel
theorem dL_law__502 : decode cL_law_ 502 = .ok (.aload_n 3, 1) := by decide +kernel
theorem dL_law__503 : decode cL_law_ 503 = .ok (.iconst 0, 1) := by decide +kernel
theorem dL_law__504 : decode cL_law_ 504 = .ok (.laload, 1) := by decide +kernel
theorem dL_law__505 : decode cL_law_ 505 = .ok (.iload 6, 2) := by decide +kernel
theorem dL_law__507 : decode cL_law_ 507 = .ok (.i2l, 1) := by decide +kernel
theorem dL_law__508 : decode cL_law_ 508 = .ok (.lcmp, 1) := by decide +kernel
theorem dL_law__509 : decode cL_law_ 509 = .ok (.ifCond .eq 5, 3) := by decide +kernel
theorem dL_law__512 : decode cL_law_ 512 = .ok (.iconst 0, 1) := by decide +kernel
theorem dL_law__513 : decode cL_law_ 513 = .ok (.ireturn, 1) := by decide +kernel
theorem dL_law__514 : decode cL_law_ 514 = .ok (.goto 2151, 3) := by decide +kernel
theorem dL_law__517 : decode cL_law_ 517 = .ok (.aload_n 1, 1) := by decide +kernel
theorem dL_law__518 : decode cL_law_ 518 = .ok (.aload_n 0, 1) := by decide +kernel
theorem dL_law__519 : decode cL_law_ 519 = .ok (.iload 4, 2) := by decide +kernel
theorem dL_law__521 : decode cL_law_ 521 = .ok (.iconst 1, 1) := by decide +kernel
theorem dL_law__522 : decode cL_law_ 522 = .ok (.iadd, 1) := by decide +kernel
theorem dL_law__523 : decode cL_law_ 523 = .ok (.iaload, 1) := by decide +kernel
theorem dL_law__524 : decode cL_law_ 524 = .ok (.aload_n 3, 1) := by decide +kernel
theorem dL_law__525 : decode cL_law_ 525 = .ok (.invokestatic 147, 3) := by decide +kernel
theorem dL_law__528 : decode cL_law_ 528 = .ok (.istore 5, 2) := by decide +kernel
theorem dL_law__530 : decode cL_law_ 530 = .ok (.aload_n 2, 1) := by decide +kernel
theorem dL_law__531 : decode cL_law_ 531 = .ok (.aload_n 0, 1) := by decide +kernel
theorem dL_law__532 : decode cL_law_ 532 = .ok (.iload 4, 2) := by decide +kernel
theorem dL_law__534 : decode cL_law_ 534 = .ok (.iconst 1, 1) := by decide +kernel
theorem dL_law__535 : decode cL_law_ 535 = .ok (.iadd, 1) := by decide +kernel
theorem dL_law__536 : decode cL_law_ 536 = .ok (.iaload, 1) := by decide +kernel
theorem dL_law__537 : decode cL_law_ 537 = .ok (.invokevirtual 149, 3) := by decide +kernel
theorem dL_law__540 : decode cL_law_ 540 = .ok (.istore 6, 2) := by decide +kernel
theorem dL_law__542 : decode cL_law_ 542 = .ok (.aload_n 2, 1) := by decide +kernel
theorem dL_law__543 : decode cL_law_ 543 = .ok (.invokevirtual 134, 3) := by decide +kernel
theorem dL_law__546 : decode cL_law_ 546 = .ok (.iload 5, 2) := by decide +kernel
theorem dL_law__548 : decode cL_law_ 548 = .ok (.if_icmp .eq 5, 3) := by decide +kernel
theorem dL_law__551 : decode cL_law_ 551 = .ok (.iconst 0, 1) := by decide +kernel
theorem dL_law__552 : decode cL_law_ 552 = .ok (.ireturn, 1) := by decide +kernel
theorem dL_law__553 : decode cL_law_ 553 = .ok (.iload 5, 2) := by decide +kernel
theorem dL_law__555 : decode cL_law_ 555 = .ok (.ifCond .ne 15, 3) := by decide +kernel
theorem dL_law__558 : decode cL_law_ 558 = .ok (.aload_n 3, 1) := by decide +kernel
theorem dL_law__559 : decode cL_law_ 559 = .ok (.iconst 0, 1) := by decide +kernel
theorem dL_law__560 : decode cL_law_ 560 = .ok (.laload, 1) := by decide +kernel
theorem dL_law__561 : decode cL_law_ 561 = .ok (.iload 6, 2) := by decide +kernel
theorem dL_law__563 : decode cL_law_ 563 = .ok (.i2l, 1) := by decide +kernel
theorem dL_law__564 : decode cL_law_ 564 = .ok (.lcmp, 1) := by decide +kernel
theorem dL_law__565 : decode cL_law_ 565 = .ok (.ifCond .eq 5, 3) := by decide +kernel
theorem dL_law__568 : decode cL_law_ 568 = .ok (.iconst 0, 1) := by decide +kernel
theorem dL_law__569 : decode cL_law_ 569 = .ok (.ireturn, 1) := by decide +kernel
theorem dL_law__570 : decode cL_law_ 570 = .ok (.goto 2095, 3) := by decide +kernel
theorem dL_law__573 : decode cL_law_ 573 = .ok (.aload_n 1, 1) := by decide +kernel
theorem dL_law__574 : decode cL_law_ 574 = .ok (.invokevirtual 150, 3) := by decide +kernel
theorem dL_law__577 : decode cL_law_ 577 = .ok (.aload_n 2, 1) := by decide +kernel
theorem dL_law__578 : decode cL_law_ 578 = .ok (.invokevirtual 153, 3) := by decide +kernel
theorem dL_law__581 : decode cL_law_ 581 = .ok (.if_icmp .eq 2084, 3) := by decide +kernel
theorem dL_law__584 : decode cL_law_ 584 = .ok (.iconst 0, 1) := by decide +kernel
theorem dL_law__585 : decode cL_law_ 585 = .ok (.ireturn, 1) := by decide +kernel
theorem dL_law__586 : decode cL_law_ 586 = .ok (.aload_n 1, 1) := by decide +kernel
theorem dL_law__587 : decode cL_law_ 587 = .ok (.invokevirtual 154, 3) := by decide +kernel
theorem dL_law__590 : decode cL_law_ 590 = .ok (.aload_n 2, 1) := by decide +kernel
theorem dL_law__591 : decode cL_law_ 591 = .ok (.invokevirtual 157, 3) := by decide +kernel
theorem dL_law__594 : decode cL_law_ 594 = .ok (.if_icmp .eq 2071, 3) := by decide +kernel
theorem dL_law__597 : decode cL_law_ 597 = .ok (.iconst 0, 1) := by decide +kernel
theorem dL_law__598 : decode cL_law_ 598 = .ok (.ireturn, 1) := by decide +kernel
theorem dL_law__599 : decode cL_law_ 599 = .ok (.aload_n 1, 1) := by decide +kernel
theorem dL_law__600 : decode cL_law_ 600 = .ok (.aload_n 0, 1) := by decide +kernel
theorem dL_law__601 : decode cL_law_ 601 = .ok (.iload 4, 2) := by decide +kernel
theorem dL_law__603 : decode cL_law_ 603 = .ok (.iconst 1, 1) := by decide +kernel
theorem dL_law__604 : decode cL_law_ 604 = .ok (.iadd, 1) := by decide +kernel
theorem dL_law__605 : decode cL_law_ 605 = .ok (.iaload, 1) := by decide +kernel
theorem dL_law__606 : decode cL_law_ 606 = .ok (.aload_n 3, 1) := by decide +kernel
theorem dL_law__607 : decode cL_law_ 607 = .ok (.invokestatic 158, 3) := by decide +kernel
theorem dL_law__610 : decode cL_law_ 610 = .ok (.istore 5, 2) := by decide +kernel
theorem dL_law__612 : decode cL_law_ 612 = .ok (.aload_n 2, 1) := by decide +kernel
theorem dL_law__613 : decode cL_law_ 613 = .ok (.aload_n 0, 1) := by decide +kernel
theorem dL_law__614 : decode cL_law_ 614 = .ok (.iload 4, 2) := by decide +kernel
theorem dL_law__616 : decode cL_law_ 616 = .ok (.iconst 1, 1) := by decide +kernel
theorem dL_law__617 : decode cL_law_ 617 = .ok (.iadd, 1) := by decide +kernel
theorem dL_law__618 : decode cL_law_ 618 = .ok (.iaload, 1) := by decide +kernel
theorem dL_law__619 : decode cL_law_ 619 = .ok (.invokevirtual 160, 3) := by decide +kernel
theorem dL_law__622 : decode cL_law_ 622 = .ok (.istore 6, 2) := by decide +kernel
theorem dL_law__624 : decode cL_law_ 624 = .ok (.aload_n 2, 1) := by decide +kernel
theorem dL_law__625 : decode cL_law_ 625 = .ok (.invokevirtual 134, 3) := by decide +kernel
theorem dL_law__628 : decode cL_law_ 628 = .ok (.iload 5, 2) := by decide +kernel
theorem dL_law__630 : decode cL_law_ 630 = .ok (.if_icmp .eq 5, 3) := by decide +kernel
theorem dL_law__633 : decode cL_law_ 633 = .ok (.iconst 0, 1) := by decide +kernel
theorem dL_law__634 : decode cL_law_ 634 = .ok (.ireturn, 1) := by decide +kernel
theorem dL_law__635 : decode cL_law_ 635 = .ok (.iload 5, 2) := by decide +kernel
theorem dL_law__637 : decode cL_law_ 637 = .ok (.ifCond .ne 15, 3) := by decide +kernel
theorem dL_law__640 : decode cL_law_ 640 = .ok (.aload_n 3, 1) := by decide +kernel
theorem dL_law__641 : decode cL_law_ 641 = .ok (.iconst 0, 1) := by decide +kernel
theorem dL_law__642 : decode cL_law_ 642 = .ok (.laload, 1) := by decide +kernel
theorem dL_law__643 : decode cL_law_ 643 = .ok (.iload 6, 2) := by decide +kernel
theorem dL_law__645 : decode cL_law_ 645 = .ok (.i2l, 1) := by decide +kernel
theorem dL_law__646 : decode cL_law_ 646 = .ok (.lcmp, 1) := by decide +kernel
theorem dL_law__647 : decode cL_law_ 647 = .ok (.ifCond .eq 5, 3) := by decide +kernel
theorem dL_law__650 : decode cL_law_ 650 = .ok (.iconst 0, 1) := by decide +kernel
theorem dL_law__651 : decode cL_law_ 651 = .ok (.ireturn, 1) := by decide +kernel
theorem dL_law__652 : decode cL_law_ 652 = .ok (.goto 2013, 3) := by decide +kernel
theorem dL_law__655 : decode cL_law_ 655 = .ok (.aload_n 1, 1) := by decide +kernel
theorem dL_law__656 : decode cL_law_ 656 = .ok (.aload_n 0, 1) := by decide +kernel
theorem dL_law__657 : decode cL_law_ 657 = .ok (.iload 4, 2) := by decide +kernel
theorem dL_law__659 : decode cL_law_ 659 = .ok (.iconst 1, 1) := by decide +kernel
theorem dL_law__660 : decode cL_law_ 660 = .ok (.iadd, 1) := by decide +kernel
theorem dL_law__661 : decode cL_law_ 661 = .ok (.iaload, 1) := by decide +kernel
theorem dL_law__662 : decode cL_law_ 662 = .ok (.aload_n 0, 1) := by decide +kernel
theorem dL_law__663 : decode cL_law_ 663 = .ok (.iload 4, 2) := by decide +kernel
theorem dL_law__665 : decode cL_law_ 665 = .ok (.iconst 2, 1) := by decide +kernel
theorem dL_law__666 : decode cL_law_ 666 = .ok (.iadd, 1) := by decide +kernel
theorem dL_law__667 : decode cL_law_ 667 = .ok (.iaload, 1) := by decide +kernel
theorem dL_law__668 : decode cL_law_ 668 = .ok (.aload_n 3, 1) := by decide +kernel
theorem dL_law__669 : decode cL_law_ 669 = .ok (.invokestatic 161, 3) := by decide +kernel
theorem dL_law__672 : decode cL_law_ 672 = .ok (.istore 5, 2) := by decide +kernel
theorem dL_law__674 : decode cL_law_ 674 = .ok (.aload_n 2, 1) := by decide +kernel
theorem dL_law__675 : decode cL_law_ 675 = .ok (.aload_n 0, 1) := by decide +kernel
theorem dL_law__676 : decode cL_law_ 676 = .ok (.iload 4, 2) := by decide +kernel
theorem dL_law__678 : decode cL_law_ 678 = .ok (.iconst 1, 1) := by decide +kernel
theorem dL_law__679 : decode cL_law_ 679 = .ok (.iadd, 1) := by decide +kernel
theorem dL_law__680 : decode cL_law_ 680 = .ok (.iaload, 1) := by decide +kernel
theorem dL_law__681 : decode cL_law_ 681 = .ok (.aload_n 0, 1) := by decide +kernel
theorem dL_law__682 : decode cL_law_ 682 = .ok (.iload 4, 2) := by decide +kernel
theorem dL_law__684 : decode cL_law_ 684 = .ok (.iconst 2, 1) := by decide +kernel
theorem dL_law__685 : decode cL_law_ 685 = .ok (.iadd, 1) := by decide +kernel
theorem dL_law__686 : decode cL_law_ 686 = .ok (.iaload, 1) := by decide +kernel
theorem dL_law__687 : decode cL_law_ 687 = .ok (.invokevirtual 164, 3) := by decide +kernel
theorem dL_law__690 : decode cL_law_ 690 = .ok (.istore 6, 2) := by decide +kernel
theorem dL_law__692 : decode cL_law_ 692 = .ok (.aload_n 2, 1) := by decide +kernel
theorem dL_law__693 : decode cL_law_ 693 = .ok (.invokevirtual 134, 3) := by decide +kernel
theorem dL_law__696 : decode cL_law_ 696 = .ok (.iload 5, 2) := by decide +kernel
theorem dL_law__698 : decode cL_law_ 698 = .ok (.if_icmp .eq 5, 3) := by decide +kernel
theorem dL_law__701 : decode cL_law_ 701 = .ok (.iconst 0, 1) := by decide +kernel
theorem dL_law__702 : decode cL_law_ 702 = .ok (.ireturn, 1) := by decide +kernel
theorem dL_law__703 : decode cL_law_ 703 = .ok (.iload 5, 2) := by decide +kernel
theorem dL_law__705 : decode cL_law_ 705 = .ok (.ifCond .ne 15, 3) := by decide +kernel
theorem dL_law__708 : decode cL_law_ 708 = .ok (.aload_n 3, 1) := by decide +kernel
theorem dL_law__709 : decode cL_law_ 709 = .ok (.iconst 0, 1) := by decide +kernel
theorem dL_law__710 : decode cL_law_ 710 = .ok (.laload, 1) := by decide +kernel
theorem dL_law__711 : decode cL_law_ 711 = .ok (.iload 6, 2) := by decide +kernel
theorem dL_law__713 : decode cL_law_ 713 = .ok (.i2l, 1) := by decide +kernel
theorem dL_law__714 : decode cL_law_ 714 = .ok (.lcmp, 1) := by decide +kernel
theorem dL_law__715 : decode cL_law_ 715 = .ok (.ifCond .eq 5, 3) := by decide +kernel
theorem dL_law__718 : decode cL_law_ 718 = .ok (.iconst 0, 1) := by decide +kernel
theorem dL_law__719 : decode cL_law_ 719 = .ok (.ireturn, 1) := by decide +kernel
theorem dL_law__720 : decode cL_law_ 720 = .ok (.goto 1945, 3) := by decide +kernel
theorem dL_law__723 : decode cL_law_ 723 = .ok (.aload_n 1, 1) := by decide +kernel
theorem dL_law__724 : decode cL_law_ 724 = .ok (.aload_n 0, 1) := by decide +kernel
theorem dL_law__725 : decode cL_law_ 725 = .ok (.iload 4, 2) := by decide +kernel
theorem dL_law__727 : decode cL_law_ 727 = .ok (.iconst 1, 1) := by decide +kernel
theorem dL_law__728 : decode cL_law_ 728 = .ok (.iadd, 1) := by decide +kernel
theorem dL_law__729 : decode cL_law_ 729 = .ok (.iaload, 1) := by decide +kernel
theorem dL_law__730 : decode cL_law_ 730 = .ok (.aload_n 0, 1) := by decide +kernel
theorem dL_law__731 : decode cL_law_ 731 = .ok (.iload 4, 2) := by decide +kernel
theorem dL_law__733 : decode cL_law_ 733 = .ok (.iconst 2, 1) := by decide +kernel
theorem dL_law__734 : decode cL_law_ 734 = .ok (.iadd, 1) := by decide +kernel
theorem dL_law__735 : decode cL_law_ 735 = .ok (.iaload, 1) := by decide +kernel
theorem dL_law__736 : decode cL_law_ 736 = .ok (.aload_n 3, 1) := by decide +kernel
theorem dL_law__737 : decode cL_law_ 737 = .ok (.invokestatic 165, 3) := by decide +kernel
theorem dL_law__740 : decode cL_law_ 740 = .ok (.istore 5, 2) := by decide +kernel
theorem dL_law__742 : decode cL_law_ 742 = .ok (.aload_n 2, 1) := by decide +kernel
theorem dL_law__743 : decode cL_law_ 743 = .ok (.aload_n 0, 1) := by decide +kernel
theorem dL_law__744 : decode cL_law_ 744 = .ok (.iload 4, 2) := by decide +kernel
theorem dL_law__746 : decode cL_law_ 746 = .ok (.iconst 1, 1) := by decide +kernel
theorem dL_law__747 : decode cL_law_ 747 = .ok (.iadd, 1) := by decide +kernel
theorem dL_law__748 : decode cL_law_ 748 = .ok (.iaload, 1) := by decide +kernel
theorem dL_law__749 : decode cL_law_ 749 = .ok (.aload_n 0, 1) := by decide +kernel
theorem dL_law__750 : decode cL_law_ 750 = .ok (.iload 4, 2) := by decide +kernel
theorem dL_law__752 : decode cL_law_ 752 = .ok (.iconst 2, 1) := by decide +kernel
theorem dL_law__753 : decode cL_law_ 753 = .ok (.iadd, 1) := by decide +kernel
theorem dL_law__754 : decode cL_law_ 754 = .ok (.iaload, 1) := by decide +kernel
theorem dL_law__755 : decode cL_law_ 755 = .ok (.invokevirtual 167, 3) := by decide +kernel
theorem dL_law__758 : decode cL_law_ 758 = .ok (.istore 6, 2) := by decide +kernel
theorem dL_law__760 : decode cL_law_ 760 = .ok (.aload_n 2, 1) := by decide +kernel
theorem dL_law__761 : decode cL_law_ 761 = .ok (.invokevirtual 134, 3) := by decide +kernel
theorem dL_law__764 : decode cL_law_ 764 = .ok (.iload 5, 2) := by decide +kernel
theorem dL_law__766 : decode cL_law_ 766 = .ok (.if_icmp .eq 5, 3) := by decide +kernel
theorem dL_law__769 : decode cL_law_ 769 = .ok (.iconst 0, 1) := by decide +kernel
theorem dL_law__770 : decode cL_law_ 770 = .ok (.ireturn, 1) := by decide +kernel
theorem dL_law__771 : decode cL_law_ 771 = .ok (.iload 5, 2) := by decide +kernel
theorem dL_law__773 : decode cL_law_ 773 = .ok (.ifCond .ne 15, 3) := by decide +kernel
theorem dL_law__776 : decode cL_law_ 776 = .ok (.aload_n 3, 1) := by decide +kernel
theorem dL_law__777 : decode cL_law_ 777 = .ok (.iconst 0, 1) := by decide +kernel
theorem dL_law__778 : decode cL_law_ 778 = .ok (.laload, 1) := by decide +kernel
theorem dL_law__779 : decode cL_law_ 779 = .ok (.iload 6, 2) := by decide +kernel
theorem dL_law__781 : decode cL_law_ 781 = .ok (.i2l, 1) := by decide +kernel
theorem dL_law__782 : decode cL_law_ 782 = .ok (.lcmp, 1) := by decide +kernel
theorem dL_law__783 : decode cL_law_ 783 = .ok (.ifCond .eq 5, 3) := by decide +kernel
theorem dL_law__786 : decode cL_law_ 786 = .ok (.iconst 0, 1) := by decide +kernel
theorem dL_law__787 : decode cL_law_ 787 = .ok (.ireturn, 1) := by decide +kernel
theorem dL_law__788 : decode cL_law_ 788 = .ok (.goto 1877, 3) := by decide +kernel
theorem dL_law__791 : decode cL_law_ 791 = .ok (.aload_n 1, 1) := by decide +kernel
theorem dL_law__792 : decode cL_law_ 792 = .ok (.aload_n 0, 1) := by decide +kernel
theorem dL_law__793 : decode cL_law_ 793 = .ok (.iload 4, 2) := by decide +kernel
theorem dL_law__795 : decode cL_law_ 795 = .ok (.iconst 1, 1) := by decide +kernel
theorem dL_law__796 : decode cL_law_ 796 = .ok (.iadd, 1) := by decide +kernel
theorem dL_law__797 : decode cL_law_ 797 = .ok (.iaload, 1) := by decide +kernel
theorem dL_law__798 : decode cL_law_ 798 = .ok (.aload_n 0, 1) := by decide +kernel
theorem dL_law__799 : decode cL_law_ 799 = .ok (.iload 4, 2) := by decide +kernel
theorem dL_law__801 : decode cL_law_ 801 = .ok (.iconst 2, 1) := by decide +kernel
theorem dL_law__802 : decode cL_law_ 802 = .ok (.iadd, 1) := by decide +kernel
theorem dL_law__803 : decode cL_law_ 803 = .ok (.iaload, 1) := by decide +kernel
theorem dL_law__804 : decode cL_law_ 804 = .ok (.aload_n 3, 1) := by decide +kernel
theorem dL_law__805 : decode cL_law_ 805 = .ok (.invokestatic 168, 3) := by decide +kernel
theorem dL_law__808 : decode cL_law_ 808 = .ok (.istore 5, 2) := by decide +kernel
theorem dL_law__810 : decode cL_law_ 810 = .ok (.aload_n 2, 1) := by decide +kernel
theorem dL_law__811 : decode cL_law_ 811 = .ok (.aload_n 0, 1) := by decide +kernel
theorem dL_law__812 : decode cL_law_ 812 = .ok (.iload 4, 2) := by decide +kernel
theorem dL_law__814 : decode cL_law_ 814 = .ok (.iconst 1, 1) := by decide +kernel
theorem dL_law__815 : decode cL_law_ 815 = .ok (.iadd, 1) := by decide +kernel
theorem dL_law__816 : decode cL_law_ 816 = .ok (.iaload, 1) := by decide +kernel
theorem dL_law__817 : decode cL_law_ 817 = .ok (.aload_n 0, 1) := by decide +kernel
theorem dL_law__818 : decode cL_law_ 818 = .ok (.iload 4, 2) := by decide +kernel
theorem dL_law__820 : decode cL_law_ 820 = .ok (.iconst 2, 1) := by decide +kernel
theorem dL_law__821 : decode cL_law_ 821 = .ok (.iadd, 1) := by decide +kernel
theorem dL_law__822 : decode cL_law_ 822 = .ok (.iaload, 1) := by decide +kernel
theorem dL_law__823 : decode cL_law_ 823 = .ok (.invokevirtual 170, 3) := by decide +kernel
theorem dL_law__826 : decode cL_law_ 826 = .ok (.istore 6, 2) := by decide +kernel
theorem dL_law__828 : decode cL_law_ 828 = .ok (.aload_n 2, 1) := by decide +kernel
theorem dL_law__829 : decode cL_law_ 829 = .ok (.invokevirtual 134, 3) := by decide +kernel
theorem dL_law__832 : decode cL_law_ 832 = .ok (.iload 5, 2) := by decide +kernel
theorem dL_law__834 : decode cL_law_ 834 = .ok (.if_icmp .eq 5, 3) := by decide +kernel
theorem dL_law__837 : decode cL_law_ 837 = .ok (.iconst 0, 1) := by decide +kernel
theorem dL_law__838 : decode cL_law_ 838 = .ok (.ireturn, 1) := by decide +kernel
theorem dL_law__839 : decode cL_law_ 839 = .ok (.iload 5, 2) := by decide +kernel
theorem dL_law__841 : decode cL_law_ 841 = .ok (.ifCond .ne 15, 3) := by decide +kernel
theorem dL_law__844 : decode cL_law_ 844 = .ok (.aload_n 3, 1) := by decide +kernel
theorem dL_law__845 : decode cL_law_ 845 = .ok (.iconst 0, 1) := by decide +kernel
theorem dL_law__846 : decode cL_law_ 846 = .ok (.laload, 1) := by decide +kernel
theorem dL_law__847 : decode cL_law_ 847 = .ok (.iload 6, 2) := by decide +kernel
theorem dL_law__849 : decode cL_law_ 849 = .ok (.i2l, 1) := by decide +kernel
theorem dL_law__850 : decode cL_law_ 850 = .ok (.lcmp, 1) := by decide +kernel
theorem dL_law__851 : decode cL_law_ 851 = .ok (.ifCond .eq 5, 3) := by decide +kernel
theorem dL_law__854 : decode cL_law_ 854 = .ok (.iconst 0, 1) := by decide +kernel
theorem dL_law__855 : decode cL_law_ 855 = .ok (.ireturn, 1) := by decide +kernel
theorem dL_law__856 : decode cL_law_ 856 = .ok (.goto 1809, 3) := by decide +kernel
theorem dL_law__859 : decode cL_law_ 859 = .ok (.aload_n 1, 1) := by decide +kernel
theorem dL_law__860 : decode cL_law_ 860 = .ok (.aload_n 0, 1) := by decide +kernel
theorem dL_law__861 : decode cL_law_ 861 = .ok (.iload 4, 2) := by decide +kernel
theorem dL_law__863 : decode cL_law_ 863 = .ok (.iconst 1, 1) := by decide +kernel
theorem dL_law__864 : decode cL_law_ 864 = .ok (.iadd, 1) := by decide +kernel
theorem dL_law__865 : decode cL_law_ 865 = .ok (.iaload, 1) := by decide +kernel
theorem dL_law__866 : decode cL_law_ 866 = .ok (.aload_n 0, 1) := by decide +kernel
theorem dL_law__867 : decode cL_law_ 867 = .ok (.iload 4, 2) := by decide +kernel
theorem dL_law__869 : decode cL_law_ 869 = .ok (.iconst 2, 1) := by decide +kernel
theorem dL_law__870 : decode cL_law_ 870 = .ok (.iadd, 1) := by decide +kernel
theorem dL_law__871 : decode cL_law_ 871 = .ok (.iaload, 1) := by decide +kernel
theorem dL_law__872 : decode cL_law_ 872 = .ok (.aload_n 3, 1) := by decide +kernel
theorem dL_law__873 : decode cL_law_ 873 = .ok (.invokestatic 171, 3) := by decide +kernel
theorem dL_law__876 : decode cL_law_ 876 = .ok (.istore 5, 2) := by decide +kernel
theorem dL_law__878 : decode cL_law_ 878 = .ok (.aload_n 2, 1) := by decide +kernel
theorem dL_law__879 : decode cL_law_ 879 = .ok (.aload_n 0, 1) := by decide +kernel
theorem dL_law__880 : decode cL_law_ 880 = .ok (.iload 4, 2) := by decide +kernel
theorem dL_law__882 : decode cL_law_ 882 = .ok (.iconst 1, 1) := by decide +kernel
theorem dL_law__883 : decode cL_law_ 883 = .ok (.iadd, 1) := by decide +kernel
theorem dL_law__884 : decode cL_law_ 884 = .ok (.iaload, 1) := by decide +kernel
theorem dL_law__885 : decode cL_law_ 885 = .ok (.aload_n 0, 1) := by decide +kernel
theorem dL_law__886 : decode cL_law_ 886 = .ok (.iload 4, 2) := by decide +kernel
theorem dL_law__888 : decode cL_law_ 888 = .ok (.iconst 2, 1) := by decide +kernel
theorem dL_law__889 : decode cL_law_ 889 = .ok (.iadd, 1) := by decide +kernel
theorem dL_law__890 : decode cL_law_ 890 = .ok (.iaload, 1) := by decide +kernel
theorem dL_law__891 : decode cL_law_ 891 = .ok (.invokevirtual 173, 3) := by decide +kernel
theorem dL_law__894 : decode cL_law_ 894 = .ok (.istore 6, 2) := by decide +kernel
theorem dL_law__896 : decode cL_law_ 896 = .ok (.aload_n 2, 1) := by decide +kernel
theorem dL_law__897 : decode cL_law_ 897 = .ok (.invokevirtual 134, 3) := by decide +kernel
theorem dL_law__900 : decode cL_law_ 900 = .ok (.iload 5, 2) := by decide +kernel
theorem dL_law__902 : decode cL_law_ 902 = .ok (.if_icmp .eq 5, 3) := by decide +kernel
theorem dL_law__905 : decode cL_law_ 905 = .ok (.iconst 0, 1) := by decide +kernel
theorem dL_law__906 : decode cL_law_ 906 = .ok (.ireturn, 1) := by decide +kernel
theorem dL_law__907 : decode cL_law_ 907 = .ok (.iload 5, 2) := by decide +kernel
theorem dL_law__909 : decode cL_law_ 909 = .ok (.ifCond .ne 15, 3) := by decide +kernel
theorem dL_law__912 : decode cL_law_ 912 = .ok (.aload_n 3, 1) := by decide +kernel
theorem dL_law__913 : decode cL_law_ 913 = .ok (.iconst 0, 1) := by decide +kernel
theorem dL_law__914 : decode cL_law_ 914 = .ok (.laload, 1) := by decide +kernel
theorem dL_law__915 : decode cL_law_ 915 = .ok (.iload 6, 2) := by decide +kernel
theorem dL_law__917 : decode cL_law_ 917 = .ok (.i2l, 1) := by decide +kernel
theorem dL_law__918 : decode cL_law_ 918 = .ok (.lcmp, 1) := by decide +kernel
theorem dL_law__919 : decode cL_law_ 919 = .ok (.ifCond .eq 5, 3) := by decide +kernel
theorem dL_law__922 : decode cL_law_ 922 = .ok (.iconst 0, 1) := by decide +kernel
theorem dL_law__923 : decode cL_law_ 923 = .ok (.ireturn, 1) := by decide +kernel
theorem dL_law__924 : decode cL_law_ 924 = .ok (.goto 1741, 3) := by decide +kernel
theorem dL_law__927 : decode cL_law_ 927 = .ok (.aload_n 1, 1) := by decide +kernel
theorem dL_law__928 : decode cL_law_ 928 = .ok (.aload_n 0, 1) := by decide +kernel
theorem dL_law__929 : decode cL_law_ 929 = .ok (.iload 4, 2) := by decide +kernel
theorem dL_law__931 : decode cL_law_ 931 = .ok (.iconst 1, 1) := by decide +kernel
theorem dL_law__932 : decode cL_law_ 932 = .ok (.iadd, 1) := by decide +kernel
theorem dL_law__933 : decode cL_law_ 933 = .ok (.iaload, 1) := by decide +kernel
theorem dL_law__934 : decode cL_law_ 934 = .ok (.aload_n 0, 1) := by decide +kernel
theorem dL_law__935 : decode cL_law_ 935 = .ok (.iload 4, 2) := by decide +kernel
theorem dL_law__937 : decode cL_law_ 937 = .ok (.iconst 2, 1) := by decide +kernel
theorem dL_law__938 : decode cL_law_ 938 = .ok (.iadd, 1) := by decide +kernel
theorem dL_law__939 : decode cL_law_ 939 = .ok (.iaload, 1) := by decide +kernel
theorem dL_law__940 : decode cL_law_ 940 = .ok (.aload_n 3, 1) := by decide +kernel
theorem dL_law__941 : decode cL_law_ 941 = .ok (.invokestatic 174, 3) := by decide +kernel
theorem dL_law__944 : decode cL_law_ 944 = .ok (.istore 5, 2) := by decide +kernel
theorem dL_law__946 : decode cL_law_ 946 = .ok (.aload_n 2, 1) := by decide +kernel
theorem dL_law__947 : decode cL_law_ 947 = .ok (.aload_n 0, 1) := by decide +kernel
theorem dL_law__948 : decode cL_law_ 948 = .ok (.iload 4, 2) := by decide +kernel
theorem dL_law__950 : decode cL_law_ 950 = .ok (.iconst 1, 1) := by decide +kernel
theorem dL_law__951 : decode cL_law_ 951 = .ok (.iadd, 1) := by decide +kernel
theorem dL_law__952 : decode cL_law_ 952 = .ok (.iaload, 1) := by decide +kernel
theorem dL_law__953 : decode cL_law_ 953 = .ok (.aload_n 0, 1) := by decide +kernel
theorem dL_law__954 : decode cL_law_ 954 = .ok (.iload 4, 2) := by decide +kernel
theorem dL_law__956 : decode cL_law_ 956 = .ok (.iconst 2, 1) := by decide +kernel
theorem dL_law__957 : decode cL_law_ 957 = .ok (.iadd, 1) := by decide +kernel
theorem dL_law__958 : decode cL_law_ 958 = .ok (.iaload, 1) := by decide +kernel
theorem dL_law__959 : decode cL_law_ 959 = .ok (.invokevirtual 176, 3) := by decide +kernel
theorem dL_law__962 : decode cL_law_ 962 = .ok (.istore 6, 2) := by decide +kernel
theorem dL_law__964 : decode cL_law_ 964 = .ok (.aload_n 2, 1) := by decide +kernel
theorem dL_law__965 : decode cL_law_ 965 = .ok (.invokevirtual 134, 3) := by decide +kernel
theorem dL_law__968 : decode cL_law_ 968 = .ok (.iload 5, 2) := by decide +kernel
theorem dL_law__970 : decode cL_law_ 970 = .ok (.if_icmp .eq 5, 3) := by decide +kernel
theorem dL_law__973 : decode cL_law_ 973 = .ok (.iconst 0, 1) := by decide +kernel
theorem dL_law__974 : decode cL_law_ 974 = .ok (.ireturn, 1) := by decide +kernel
theorem dL_law__975 : decode cL_law_ 975 = .ok (.iload 5, 2) := by decide +kernel
theorem dL_law__977 : decode cL_law_ 977 = .ok (.ifCond .ne 15, 3) := by decide +kernel
theorem dL_law__980 : decode cL_law_ 980 = .ok (.aload_n 3, 1) := by decide +kernel
theorem dL_law__981 : decode cL_law_ 981 = .ok (.iconst 0, 1) := by decide +kernel
theorem dL_law__982 : decode cL_law_ 982 = .ok (.laload, 1) := by decide +kernel
theorem dL_law__983 : decode cL_law_ 983 = .ok (.iload 6, 2) := by decide +kernel
theorem dL_law__985 : decode cL_law_ 985 = .ok (.i2l, 1) := by decide +kernel
theorem dL_law__986 : decode cL_law_ 986 = .ok (.lcmp, 1) := by decide +kernel
theorem dL_law__987 : decode cL_law_ 987 = .ok (.ifCond .eq 5, 3) := by decide +kernel
theorem dL_law__990 : decode cL_law_ 990 = .ok (.iconst 0, 1) := by decide +kernel
theorem dL_law__991 : decode cL_law_ 991 = .ok (.ireturn, 1) := by decide +kernel
theorem dL_law__992 : decode cL_law_ 992 = .ok (.goto 1673, 3) := by decide +kernel
theorem dL_law__995 : decode cL_law_ 995 = .ok (.aload_n 1, 1) := by decide +kernel
theorem dL_law__996 : decode cL_law_ 996 = .ok (.aload_n 0, 1) := by decide +kernel
theorem dL_law__997 : decode cL_law_ 997 = .ok (.iload 4, 2) := by decide +kernel
theorem dL_law__999 : decode cL_law_ 999 = .ok (.iconst 1, 1) := by decide +kernel
theorem dL_law__1000 : decode cL_law_ 1000 = .ok (.iadd, 1) := by decide +kernel
theorem dL_law__1001 : decode cL_law_ 1001 = .ok (.iaload, 1) := by decide +kernel
theorem dL_law__1002 : decode cL_law_ 1002 = .ok (.aload_n 0, 1) := by decide +kernel
theorem dL_law__1003 : decode cL_law_ 1003 = .ok (.iload 4, 2) := by decide +kernel
theorem dL_law__1005 : decode cL_law_ 1005 = .ok (.iconst 2, 1) := by decide +kernel
theorem dL_law__1006 : decode cL_law_ 1006 = .ok (.iadd, 1) := by decide +kernel
theorem dL_law__1007 : decode cL_law_ 1007 = .ok (.iaload, 1) := by decide +kernel
theorem dL_law__1008 : decode cL_law_ 1008 = .ok (.aload_n 0, 1) := by decide +kernel
theorem dL_law__1009 : decode cL_law_ 1009 = .ok (.iload 4, 2) := by decide +kernel
theorem dL_law__1011 : decode cL_law_ 1011 = .ok (.iconst 3, 1) := by decide +kernel
theorem dL_law__1012 : decode cL_law_ 1012 = .ok (.iadd, 1) := by decide +kernel
theorem dL_law__1013 : decode cL_law_ 1013 = .ok (.iaload, 1) := by decide +kernel
theorem dL_law__1014 : decode cL_law_ 1014 = .ok (.aload_n 0, 1) := by decide +kernel
theorem dL_law__1015 : decode cL_law_ 1015 = .ok (.iload 4, 2) := by decide +kernel
theorem dL_law__1017 : decode cL_law_ 1017 = .ok (.iconst 4, 1) := by decide +kernel
theorem dL_law__1018 : decode cL_law_ 1018 = .ok (.iadd, 1) := by decide +kernel
theorem dL_law__1019 : decode cL_law_ 1019 = .ok (.iaload, 1) := by decide +kernel
theorem dL_law__1020 : decode cL_law_ 1020 = .ok (.aload_n 0, 1) := by decide +kernel
theorem dL_law__1021 : decode cL_law_ 1021 = .ok (.iload 4, 2) := by decide +kernel
theorem dL_law__1023 : decode cL_law_ 1023 = .ok (.iconst 5, 1) := by decide +kernel
theorem dL_law__1024 : decode cL_law_ 1024 = .ok (.iadd, 1) := by decide +kernel
theorem dL_law__1025 : decode cL_law_ 1025 = .ok (.iaload, 1) := by decide +kernel
theorem dL_law__1026 : decode cL_law_ 1026 = .ok (.aload_n 0, 1) := by decide +kernel
theorem dL_law__1027 : decode cL_law_ 1027 = .ok (.iload 4, 2) := by decide +kernel
theorem dL_law__1029 : decode cL_law_ 1029 = .ok (.bipush 6, 2) := by decide +kernel
theorem dL_law__1031 : decode cL_law_ 1031 = .ok (.iadd, 1) := by decide +kernel
theorem dL_law__1032 : decode cL_law_ 1032 = .ok (.iaload, 1) := by decide +kernel
theorem dL_law__1033 : decode cL_law_ 1033 = .ok (.aload_n 0, 1) := by decide +kernel
theorem dL_law__1034 : decode cL_law_ 1034 = .ok (.iload 4, 2) := by decide +kernel
theorem dL_law__1036 : decode cL_law_ 1036 = .ok (.bipush 7, 2) := by decide +kernel
theorem dL_law__1038 : decode cL_law_ 1038 = .ok (.iadd, 1) := by decide +kernel
theorem dL_law__1039 : decode cL_law_ 1039 = .ok (.iaload, 1) := by decide +kernel
theorem dL_law__1040 : decode cL_law_ 1040 = .ok (.aload_n 0, 1) := by decide +kernel
theorem dL_law__1041 : decode cL_law_ 1041 = .ok (.iload 4, 2) := by decide +kernel
theorem dL_law__1043 : decode cL_law_ 1043 = .ok (.bipush 8, 2) := by decide +kernel
theorem dL_law__1045 : decode cL_law_ 1045 = .ok (.iadd, 1) := by decide +kernel
theorem dL_law__1046 : decode cL_law_ 1046 = .ok (.iaload, 1) := by decide +kernel
theorem dL_law__1047 : decode cL_law_ 1047 = .ok (.aload_n 3, 1) := by decide +kernel
theorem dL_law__1048 : decode cL_law_ 1048 = .ok (.invokestatic 177, 3) := by decide +kernel
theorem dL_law__1051 : decode cL_law_ 1051 = .ok (.istore 5, 2) := by decide +kernel
theorem dL_law__1053 : decode cL_law_ 1053 = .ok (.aload_n 2, 1) := by decide +kernel
theorem dL_law__1054 : decode cL_law_ 1054 = .ok (.aload_n 0, 1) := by decide +kernel
theorem dL_law__1055 : decode cL_law_ 1055 = .ok (.iload 4, 2) := by decide +kernel
theorem dL_law__1057 : decode cL_law_ 1057 = .ok (.iconst 1, 1) := by decide +kernel
theorem dL_law__1058 : decode cL_law_ 1058 = .ok (.iadd, 1) := by decide +kernel
theorem dL_law__1059 : decode cL_law_ 1059 = .ok (.iaload, 1) := by decide +kernel
theorem dL_law__1060 : decode cL_law_ 1060 = .ok (.aload_n 0, 1) := by decide +kernel
theorem dL_law__1061 : decode cL_law_ 1061 = .ok (.iload 4, 2) := by decide +kernel
theorem dL_law__1063 : decode cL_law_ 1063 = .ok (.iconst 2, 1) := by decide +kernel
theorem dL_law__1064 : decode cL_law_ 1064 = .ok (.iadd, 1) := by decide +kernel
theorem dL_law__1065 : decode cL_law_ 1065 = .ok (.iaload, 1) := by decide +kernel
theorem dL_law__1066 : decode cL_law_ 1066 = .ok (.aload_n 0, 1) := by decide +kernel
theorem dL_law__1067 : decode cL_law_ 1067 = .ok (.iload 4, 2) := by decide +kernel
theorem dL_law__1069 : decode cL_law_ 1069 = .ok (.iconst 3, 1) := by decide +kernel
theorem dL_law__1070 : decode cL_law_ 1070 = .ok (.iadd, 1) := by decide +kernel
theorem dL_law__1071 : decode cL_law_ 1071 = .ok (.iaload, 1) := by decide +kernel
theorem dL_law__1072 : decode cL_law_ 1072 = .ok (.aload_n 0, 1) := by decide +kernel
theorem dL_law__1073 : decode cL_law_ 1073 = .ok (.iload 4, 2) := by decide +kernel
theorem dL_law__1075 : decode cL_law_ 1075 = .ok (.iconst 4, 1) := by decide +kernel
theorem dL_law__1076 : decode cL_law_ 1076 = .ok (.iadd, 1) := by decide +kernel
theorem dL_law__1077 : decode cL_law_ 1077 = .ok (.iaload, 1) := by decide +kernel
theorem dL_law__1078 : decode cL_law_ 1078 = .ok (.aload_n 0, 1) := by decide +kernel
theorem dL_law__1079 : decode cL_law_ 1079 = .ok (.iload 4, 2) := by decide +kernel
theorem dL_law__1081 : decode cL_law_ 1081 = .ok (.iconst 5, 1) := by decide +kernel
theorem dL_law__1082 : decode cL_law_ 1082 = .ok (.iadd, 1) := by decide +kernel
theorem dL_law__1083 : decode cL_law_ 1083 = .ok (.iaload, 1) := by decide +kernel
theorem dL_law__1084 : decode cL_law_ 1084 = .ok (.aload_n 0, 1) := by decide +kernel
theorem dL_law__1085 : decode cL_law_ 1085 = .ok (.iload 4, 2) := by decide +kernel
theorem dL_law__1087 : decode cL_law_ 1087 = .ok (.bipush 6, 2) := by decide +kernel
theorem dL_law__1089 : decode cL_law_ 1089 = .ok (.iadd, 1) := by decide +kernel
theorem dL_law__1090 : decode cL_law_ 1090 = .ok (.iaload, 1) := by decide +kernel
theorem dL_law__1091 : decode cL_law_ 1091 = .ok (.aload_n 0, 1) := by decide +kernel
theorem dL_law__1092 : decode cL_law_ 1092 = .ok (.iload 4, 2) := by decide +kernel
theorem dL_law__1094 : decode cL_law_ 1094 = .ok (.bipush 7, 2) := by decide +kernel
theorem dL_law__1096 : decode cL_law_ 1096 = .ok (.iadd, 1) := by decide +kernel
theorem dL_law__1097 : decode cL_law_ 1097 = .ok (.iaload, 1) := by decide +kernel
theorem dL_law__1098 : decode cL_law_ 1098 = .ok (.aload_n 0, 1) := by decide +kernel
theorem dL_law__1099 : decode cL_law_ 1099 = .ok (.iload 4, 2) := by decide +kernel
theorem dL_law__1101 : decode cL_law_ 1101 = .ok (.bipush 8, 2) := by decide +kernel
theorem dL_law__1103 : decode cL_law_ 1103 = .ok (.iadd, 1) := by decide +kernel
theorem dL_law__1104 : decode cL_law_ 1104 = .ok (.iaload, 1) := by decide +kernel
theorem dL_law__1105 : decode cL_law_ 1105 = .ok (.invokevirtual 180, 3) := by decide +kernel
theorem dL_law__1108 : decode cL_law_ 1108 = .ok (.istore 6, 2) := by decide +kernel
theorem dL_law__1110 : decode cL_law_ 1110 = .ok (.aload_n 2, 1) := by decide +kernel
theorem dL_law__1111 : decode cL_law_ 1111 = .ok (.invokevirtual 134, 3) := by decide +kernel
theorem dL_law__1114 : decode cL_law_ 1114 = .ok (.iload 5, 2) := by decide +kernel
theorem dL_law__1116 : decode cL_law_ 1116 = .ok (.if_icmp .eq 5, 3) := by decide +kernel
theorem dL_law__1119 : decode cL_law_ 1119 = .ok (.iconst 0, 1) := by decide +kernel
theorem dL_law__1120 : decode cL_law_ 1120 = .ok (.ireturn, 1) := by decide +kernel
theorem dL_law__1121 : decode cL_law_ 1121 = .ok (.iload 5, 2) := by decide +kernel
theorem dL_law__1123 : decode cL_law_ 1123 = .ok (.ifCond .ne 15, 3) := by decide +kernel
theorem dL_law__1126 : decode cL_law_ 1126 = .ok (.aload_n 3, 1) := by decide +kernel
theorem dL_law__1127 : decode cL_law_ 1127 = .ok (.iconst 0, 1) := by decide +kernel
theorem dL_law__1128 : decode cL_law_ 1128 = .ok (.laload, 1) := by decide +kernel
theorem dL_law__1129 : decode cL_law_ 1129 = .ok (.iload 6, 2) := by decide +kernel
theorem dL_law__1131 : decode cL_law_ 1131 = .ok (.i2l, 1) := by decide +kernel
theorem dL_law__1132 : decode cL_law_ 1132 = .ok (.lcmp, 1) := by decide +kernel
theorem dL_law__1133 : decode cL_law_ 1133 = .ok (.ifCond .eq 5, 3) := by decide +kernel
theorem dL_law__1136 : decode cL_law_ 1136 = .ok (.iconst 0, 1) := by decide +kernel
theorem dL_law__1137 : decode cL_law_ 1137 = .ok (.ireturn, 1) := by decide +kernel
theorem dL_law__1138 : decode cL_law_ 1138 = .ok (.goto 1527, 3) := by decide +kernel
theorem dL_law__1141 : decode cL_law_ 1141 = .ok (.aload_n 1, 1) := by decide +kernel
theorem dL_law__1142 : decode cL_law_ 1142 = .ok (.aload_n 0, 1) := by decide +kernel
theorem dL_law__1143 : decode cL_law_ 1143 = .ok (.iload 4, 2) := by decide +kernel
theorem dL_law__1145 : decode cL_law_ 1145 = .ok (.iconst 1, 1) := by decide +kernel
theorem dL_law__1146 : decode cL_law_ 1146 = .ok (.iadd, 1) := by decide +kernel
theorem dL_law__1147 : decode cL_law_ 1147 = .ok (.iaload, 1) := by decide +kernel
theorem dL_law__1148 : decode cL_law_ 1148 = .ok (.aload_n 3, 1) := by decide +kernel
theorem dL_law__1149 : decode cL_law_ 1149 = .ok (.invokestatic 181, 3) := by decide +kernel
theorem dL_law__1152 : decode cL_law_ 1152 = .ok (.istore 5, 2) := by decide +kernel
theorem dL_law__1154 : decode cL_law_ 1154 = .ok (.aload_n 2, 1) := by decide +kernel
theorem dL_law__1155 : decode cL_law_ 1155 = .ok (.aload_n 0, 1) := by decide +kernel
theorem dL_law__1156 : decode cL_law_ 1156 = .ok (.iload 4, 2) := by decide +kernel
theorem dL_law__1158 : decode cL_law_ 1158 = .ok (.iconst 1, 1) := by decide +kernel
theorem dL_law__1159 : decode cL_law_ 1159 = .ok (.iadd, 1) := by decide +kernel
theorem dL_law__1160 : decode cL_law_ 1160 = .ok (.iaload, 1) := by decide +kernel
theorem dL_law__1161 : decode cL_law_ 1161 = .ok (.invokevirtual 183, 3) := by decide +kernel
theorem dL_law__1164 : decode cL_law_ 1164 = .ok (.istore 6, 2) := by decide +kernel
theorem dL_law__1166 : decode cL_law_ 1166 = .ok (.aload_n 2, 1) := by decide +kernel
theorem dL_law__1167 : decode cL_law_ 1167 = .ok (.invokevirtual 134, 3) := by decide +kernel
theorem dL_law__1170 : decode cL_law_ 1170 = .ok (.iload 5, 2) := by decide +kernel
theorem dL_law__1172 : decode cL_law_ 1172 = .ok (.if_icmp .eq 5, 3) := by decide +kernel
theorem dL_law__1175 : decode cL_law_ 1175 = .ok (.iconst 0, 1) := by decide +kernel
theorem dL_law__1176 : decode cL_law_ 1176 = .ok (.ireturn, 1) := by decide +kernel
theorem dL_law__1177 : decode cL_law_ 1177 = .ok (.iload 5, 2) := by decide +kernel
theorem dL_law__1179 : decode cL_law_ 1179 = .ok (.ifCond .ne 15, 3) := by decide +kernel
theorem dL_law__1182 : decode cL_law_ 1182 = .ok (.aload_n 3, 1) := by decide +kernel
theorem dL_law__1183 : decode cL_law_ 1183 = .ok (.iconst 0, 1) := by decide +kernel
theorem dL_law__1184 : decode cL_law_ 1184 = .ok (.laload, 1) := by decide +kernel
theorem dL_law__1185 : decode cL_law_ 1185 = .ok (.iload 6, 2) := by decide +kernel
theorem dL_law__1187 : decode cL_law_ 1187 = .ok (.i2l, 1) := by decide +kernel
theorem dL_law__1188 : decode cL_law_ 1188 = .ok (.lcmp, 1) := by decide +kernel
theorem dL_law__1189 : decode cL_law_ 1189 = .ok (.ifCond .eq 5, 3) := by decide +kernel
theorem dL_law__1192 : decode cL_law_ 1192 = .ok (.iconst 0, 1) := by decide +kernel
theorem dL_law__1193 : decode cL_law_ 1193 = .ok (.ireturn, 1) := by decide +kernel
theorem dL_law__1194 : decode cL_law_ 1194 = .ok (.goto 1471, 3) := by decide +kernel
theorem dL_law__1197 : decode cL_law_ 1197 = .ok (.aload_n 1, 1) := by decide +kernel
theorem dL_law__1198 : decode cL_law_ 1198 = .ok (.aload_n 0, 1) := by decide +kernel
theorem dL_law__1199 : decode cL_law_ 1199 = .ok (.iload 4, 2) := by decide +kernel
theorem dL_law__1201 : decode cL_law_ 1201 = .ok (.iconst 1, 1) := by decide +kernel
theorem dL_law__1202 : decode cL_law_ 1202 = .ok (.iadd, 1) := by decide +kernel
theorem dL_law__1203 : decode cL_law_ 1203 = .ok (.iaload, 1) := by decide +kernel
theorem dL_law__1204 : decode cL_law_ 1204 = .ok (.aload_n 0, 1) := by decide +kernel
theorem dL_law__1205 : decode cL_law_ 1205 = .ok (.iload 4, 2) := by decide +kernel
theorem dL_law__1207 : decode cL_law_ 1207 = .ok (.iconst 2, 1) := by decide +kernel
theorem dL_law__1208 : decode cL_law_ 1208 = .ok (.iadd, 1) := by decide +kernel
theorem dL_law__1209 : decode cL_law_ 1209 = .ok (.iaload, 1) := by decide +kernel
theorem dL_law__1210 : decode cL_law_ 1210 = .ok (.aload_n 3, 1) := by decide +kernel
theorem dL_law__1211 : decode cL_law_ 1211 = .ok (.invokestatic 184, 3) := by decide +kernel
theorem dL_law__1214 : decode cL_law_ 1214 = .ok (.istore 5, 2) := by decide +kernel
theorem dL_law__1216 : decode cL_law_ 1216 = .ok (.aload_n 2, 1) := by decide +kernel
theorem dL_law__1217 : decode cL_law_ 1217 = .ok (.aload_n 0, 1) := by decide +kernel
theorem dL_law__1218 : decode cL_law_ 1218 = .ok (.iload 4, 2) := by decide +kernel
theorem dL_law__1220 : decode cL_law_ 1220 = .ok (.iconst 1, 1) := by decide +kernel
theorem dL_law__1221 : decode cL_law_ 1221 = .ok (.iadd, 1) := by decide +kernel
theorem dL_law__1222 : decode cL_law_ 1222 = .ok (.iaload, 1) := by decide +kernel
theorem dL_law__1223 : decode cL_law_ 1223 = .ok (.aload_n 0, 1) := by decide +kernel
theorem dL_law__1224 : decode cL_law_ 1224 = .ok (.iload 4, 2) := by decide +kernel
theorem dL_law__1226 : decode cL_law_ 1226 = .ok (.iconst 2, 1) := by decide +kernel
theorem dL_law__1227 : decode cL_law_ 1227 = .ok (.iadd, 1) := by decide +kernel
theorem dL_law__1228 : decode cL_law_ 1228 = .ok (.iaload, 1) := by decide +kernel
theorem dL_law__1229 : decode cL_law_ 1229 = .ok (.invokevirtual 186, 3) := by decide +kernel
theorem dL_law__1232 : decode cL_law_ 1232 = .ok (.istore 6, 2) := by decide +kernel
theorem dL_law__1234 : decode cL_law_ 1234 = .ok (.aload_n 2, 1) := by decide +kernel
theorem dL_law__1235 : decode cL_law_ 1235 = .ok (.invokevirtual 134, 3) := by decide +kernel
theorem dL_law__1238 : decode cL_law_ 1238 = .ok (.iload 5, 2) := by decide +kernel
theorem dL_law__1240 : decode cL_law_ 1240 = .ok (.if_icmp .eq 5, 3) := by decide +kernel
theorem dL_law__1243 : decode cL_law_ 1243 = .ok (.iconst 0, 1) := by decide +kernel
theorem dL_law__1244 : decode cL_law_ 1244 = .ok (.ireturn, 1) := by decide +kernel
theorem dL_law__1245 : decode cL_law_ 1245 = .ok (.iload 5, 2) := by decide +kernel
theorem dL_law__1247 : decode cL_law_ 1247 = .ok (.ifCond .ne 15, 3) := by decide +kernel
theorem dL_law__1250 : decode cL_law_ 1250 = .ok (.aload_n 3, 1) := by decide +kernel
theorem dL_law__1251 : decode cL_law_ 1251 = .ok (.iconst 0, 1) := by decide +kernel
theorem dL_law__1252 : decode cL_law_ 1252 = .ok (.laload, 1) := by decide +kernel
theorem dL_law__1253 : decode cL_law_ 1253 = .ok (.iload 6, 2) := by decide +kernel
theorem dL_law__1255 : decode cL_law_ 1255 = .ok (.i2l, 1) := by decide +kernel
theorem dL_law__1256 : decode cL_law_ 1256 = .ok (.lcmp, 1) := by decide +kernel
theorem dL_law__1257 : decode cL_law_ 1257 = .ok (.ifCond .eq 5, 3) := by decide +kernel
theorem dL_law__1260 : decode cL_law_ 1260 = .ok (.iconst 0, 1) := by decide +kernel
theorem dL_law__1261 : decode cL_law_ 1261 = .ok (.ireturn, 1) := by decide +kernel
theorem dL_law__1262 : decode cL_law_ 1262 = .ok (.goto 1403, 3) := by decide +kernel
theorem dL_law__1265 : decode cL_law_ 1265 = .ok (.aload_n 1, 1) := by decide +kernel
theorem dL_law__1266 : decode cL_law_ 1266 = .ok (.aload_n 0, 1) := by decide +kernel
theorem dL_law__1267 : decode cL_law_ 1267 = .ok (.iload 4, 2) := by decide +kernel
theorem dL_law__1269 : decode cL_law_ 1269 = .ok (.iconst 1, 1) := by decide +kernel
theorem dL_law__1270 : decode cL_law_ 1270 = .ok (.iadd, 1) := by decide +kernel
theorem dL_law__1271 : decode cL_law_ 1271 = .ok (.iaload, 1) := by decide +kernel
theorem dL_law__1272 : decode cL_law_ 1272 = .ok (.aload_n 0, 1) := by decide +kernel
theorem dL_law__1273 : decode cL_law_ 1273 = .ok (.iload 4, 2) := by decide +kernel
theorem dL_law__1275 : decode cL_law_ 1275 = .ok (.iconst 2, 1) := by decide +kernel
theorem dL_law__1276 : decode cL_law_ 1276 = .ok (.iadd, 1) := by decide +kernel
theorem dL_law__1277 : decode cL_law_ 1277 = .ok (.iaload, 1) := by decide +kernel
theorem dL_law__1278 : decode cL_law_ 1278 = .ok (.aload_n 3, 1) := by decide +kernel
theorem dL_law__1279 : decode cL_law_ 1279 = .ok (.invokestatic 187, 3) := by decide +kernel
theorem dL_law__1282 : decode cL_law_ 1282 = .ok (.istore 5, 2) := by decide +kernel
theorem dL_law__1284 : decode cL_law_ 1284 = .ok (.aload_n 2, 1) := by decide +kernel
theorem dL_law__1285 : decode cL_law_ 1285 = .ok (.aload_n 0, 1) := by decide +kernel
theorem dL_law__1286 : decode cL_law_ 1286 = .ok (.iload 4, 2) := by decide +kernel
theorem dL_law__1288 : decode cL_law_ 1288 = .ok (.iconst 1, 1) := by decide +kernel
theorem dL_law__1289 : decode cL_law_ 1289 = .ok (.iadd, 1) := by decide +kernel
theorem dL_law__1290 : decode cL_law_ 1290 = .ok (.iaload, 1) := by decide +kernel
theorem dL_law__1291 : decode cL_law_ 1291 = .ok (.aload_n 0, 1) := by decide +kernel
theorem dL_law__1292 : decode cL_law_ 1292 = .ok (.iload 4, 2) := by decide +kernel
theorem dL_law__1294 : decode cL_law_ 1294 = .ok (.iconst 2, 1) := by decide +kernel
theorem dL_law__1295 : decode cL_law_ 1295 = .ok (.iadd, 1) := by decide +kernel
theorem dL_law__1296 : decode cL_law_ 1296 = .ok (.iaload, 1) := by decide +kernel
theorem dL_law__1297 : decode cL_law_ 1297 = .ok (.invokevirtual 189, 3) := by decide +kernel
theorem dL_law__1300 : decode cL_law_ 1300 = .ok (.istore 6, 2) := by decide +kernel
theorem dL_law__1302 : decode cL_law_ 1302 = .ok (.aload_n 2, 1) := by decide +kernel
theorem dL_law__1303 : decode cL_law_ 1303 = .ok (.invokevirtual 134, 3) := by decide +kernel
theorem dL_law__1306 : decode cL_law_ 1306 = .ok (.iload 5, 2) := by decide +kernel
theorem dL_law__1308 : decode cL_law_ 1308 = .ok (.if_icmp .eq 5, 3) := by decide +kernel
theorem dL_law__1311 : decode cL_law_ 1311 = .ok (.iconst 0, 1) := by decide +kernel
theorem dL_law__1312 : decode cL_law_ 1312 = .ok (.ireturn, 1) := by decide +kernel
theorem dL_law__1313 : decode cL_law_ 1313 = .ok (.iload 5, 2) := by decide +kernel
theorem dL_law__1315 : decode cL_law_ 1315 = .ok (.ifCond .ne 15, 3) := by decide +kernel
theorem dL_law__1318 : decode cL_law_ 1318 = .ok (.aload_n 3, 1) := by decide +kernel
theorem dL_law__1319 : decode cL_law_ 1319 = .ok (.iconst 0, 1) := by decide +kernel
theorem dL_law__1320 : decode cL_law_ 1320 = .ok (.laload, 1) := by decide +kernel
theorem dL_law__1321 : decode cL_law_ 1321 = .ok (.iload 6, 2) := by decide +kernel
theorem dL_law__1323 : decode cL_law_ 1323 = .ok (.i2l, 1) := by decide +kernel
theorem dL_law__1324 : decode cL_law_ 1324 = .ok (.lcmp, 1) := by decide +kernel
theorem dL_law__1325 : decode cL_law_ 1325 = .ok (.ifCond .eq 5, 3) := by decide +kernel
theorem dL_law__1328 : decode cL_law_ 1328 = .ok (.iconst 0, 1) := by decide +kernel
theorem dL_law__1329 : decode cL_law_ 1329 = .ok (.ireturn, 1) := by decide +kernel
theorem dL_law__1330 : decode cL_law_ 1330 = .ok (.goto 1335, 3) := by decide +kernel
theorem dL_law__1333 : decode cL_law_ 1333 = .ok (.aload_n 1, 1) := by decide +kernel
theorem dL_law__1334 : decode cL_law_ 1334 = .ok (.aload_n 0, 1) := by decide +kernel
theorem dL_law__1335 : decode cL_law_ 1335 = .ok (.iload 4, 2) := by decide +kernel
theorem dL_law__1337 : decode cL_law_ 1337 = .ok (.iconst 1, 1) := by decide +kernel
theorem dL_law__1338 : decode cL_law_ 1338 = .ok (.iadd, 1) := by decide +kernel
theorem dL_law__1339 : decode cL_law_ 1339 = .ok (.iaload, 1) := by decide +kernel
theorem dL_law__1340 : decode cL_law_ 1340 = .ok (.aload_n 3, 1) := by decide +kernel
theorem dL_law__1341 : decode cL_law_ 1341 = .ok (.invokestatic 190, 3) := by decide +kernel
theorem dL_law__1344 : decode cL_law_ 1344 = .ok (.istore 5, 2) := by decide +kernel
theorem dL_law__1346 : decode cL_law_ 1346 = .ok (.aload_n 2, 1) := by decide +kernel
theorem dL_law__1347 : decode cL_law_ 1347 = .ok (.aload_n 0, 1) := by decide +kernel
theorem dL_law__1348 : decode cL_law_ 1348 = .ok (.iload 4, 2) := by decide +kernel
theorem dL_law__1350 : decode cL_law_ 1350 = .ok (.iconst 1, 1) := by decide +kernel
theorem dL_law__1351 : decode cL_law_ 1351 = .ok (.iadd, 1) := by decide +kernel
theorem dL_law__1352 : decode cL_law_ 1352 = .ok (.iaload, 1) := by decide +kernel
theorem dL_law__1353 : decode cL_law_ 1353 = .ok (.invokevirtual 192, 3) := by decide +kernel
theorem dL_law__1356 : decode cL_law_ 1356 = .ok (.istore 6, 2) := by decide +kernel
theorem dL_law__1358 : decode cL_law_ 1358 = .ok (.aload_n 2, 1) := by decide +kernel
theorem dL_law__1359 : decode cL_law_ 1359 = .ok (.invokevirtual 134, 3) := by decide +kernel
theorem dL_law__1362 : decode cL_law_ 1362 = .ok (.iload 5, 2) := by decide +kernel
theorem dL_law__1364 : decode cL_law_ 1364 = .ok (.if_icmp .eq 5, 3) := by decide +kernel
theorem dL_law__1367 : decode cL_law_ 1367 = .ok (.iconst 0, 1) := by decide +kernel
theorem dL_law__1368 : decode cL_law_ 1368 = .ok (.ireturn, 1) := by decide +kernel
theorem dL_law__1369 : decode cL_law_ 1369 = .ok (.iload 5, 2) := by decide +kernel
theorem dL_law__1371 : decode cL_law_ 1371 = .ok (.ifCond .ne 15, 3) := by decide +kernel
theorem dL_law__1374 : decode cL_law_ 1374 = .ok (.aload_n 3, 1) := by decide +kernel
theorem dL_law__1375 : decode cL_law_ 1375 = .ok (.iconst 0, 1) := by decide +kernel
theorem dL_law__1376 : decode cL_law_ 1376 = .ok (.laload, 1) := by decide +kernel
theorem dL_law__1377 : decode cL_law_ 1377 = .ok (.iload 6, 2) := by decide +kernel
theorem dL_law__1379 : decode cL_law_ 1379 = .ok (.i2l, 1) := by decide +kernel
theorem dL_law__1380 : decode cL_law_ 1380 = .ok (.lcmp, 1) := by decide +kernel
theorem dL_law__1381 : decode cL_law_ 1381 = .ok (.ifCond .eq 5, 3) := by decide +kernel
theorem dL_law__1384 : decode cL_law_ 1384 = .ok (.iconst 0, 1) := by decide +kernel
theorem dL_law__1385 : decode cL_law_ 1385 = .ok (.ireturn, 1) := by decide +kernel
theorem dL_law__1386 : decode cL_law_ 1386 = .ok (.goto 1279, 3) := by decide +kernel
theorem dL_law__1389 : decode cL_law_ 1389 = .ok (.aload_n 1, 1) := by decide +kernel
theorem dL_law__1390 : decode cL_law_ 1390 = .ok (.aload_n 0, 1) := by decide +kernel
theorem dL_law__1391 : decode cL_law_ 1391 = .ok (.iload 4, 2) := by decide +kernel
theorem dL_law__1393 : decode cL_law_ 1393 = .ok (.iconst 1, 1) := by decide +kernel
theorem dL_law__1394 : decode cL_law_ 1394 = .ok (.iadd, 1) := by decide +kernel
theorem dL_law__1395 : decode cL_law_ 1395 = .ok (.iaload, 1) := by decide +kernel
theorem dL_law__1396 : decode cL_law_ 1396 = .ok (.aload_n 0, 1) := by decide +kernel
theorem dL_law__1397 : decode cL_law_ 1397 = .ok (.iload 4, 2) := by decide +kernel
theorem dL_law__1399 : decode cL_law_ 1399 = .ok (.iconst 2, 1) := by decide +kernel
theorem dL_law__1400 : decode cL_law_ 1400 = .ok (.iadd, 1) := by decide +kernel
theorem dL_law__1401 : decode cL_law_ 1401 = .ok (.iaload, 1) := by decide +kernel
theorem dL_law__1402 : decode cL_law_ 1402 = .ok (.aload_n 3, 1) := by decide +kernel
theorem dL_law__1403 : decode cL_law_ 1403 = .ok (.invokestatic 193, 3) := by decide +kernel
theorem dL_law__1406 : decode cL_law_ 1406 = .ok (.istore 5, 2) := by decide +kernel
theorem dL_law__1408 : decode cL_law_ 1408 = .ok (.aload_n 2, 1) := by decide +kernel
theorem dL_law__1409 : decode cL_law_ 1409 = .ok (.aload_n 0, 1) := by decide +kernel
theorem dL_law__1410 : decode cL_law_ 1410 = .ok (.iload 4, 2) := by decide +kernel
theorem dL_law__1412 : decode cL_law_ 1412 = .ok (.iconst 1, 1) := by decide +kernel
theorem dL_law__1413 : decode cL_law_ 1413 = .ok (.iadd, 1) := by decide +kernel
theorem dL_law__1414 : decode cL_law_ 1414 = .ok (.iaload, 1) := by decide +kernel
theorem dL_law__1415 : decode cL_law_ 1415 = .ok (.aload_n 0, 1) := by decide +kernel
theorem dL_law__1416 : decode cL_law_ 1416 = .ok (.iload 4, 2) := by decide +kernel
theorem dL_law__1418 : decode cL_law_ 1418 = .ok (.iconst 2, 1) := by decide +kernel
theorem dL_law__1419 : decode cL_law_ 1419 = .ok (.iadd, 1) := by decide +kernel
theorem dL_law__1420 : decode cL_law_ 1420 = .ok (.iaload, 1) := by decide +kernel
theorem dL_law__1421 : decode cL_law_ 1421 = .ok (.invokevirtual 195, 3) := by decide +kernel
theorem dL_law__1424 : decode cL_law_ 1424 = .ok (.istore 6, 2) := by decide +kernel
theorem dL_law__1426 : decode cL_law_ 1426 = .ok (.aload_n 2, 1) := by decide +kernel
theorem dL_law__1427 : decode cL_law_ 1427 = .ok (.invokevirtual 134, 3) := by decide +kernel
theorem dL_law__1430 : decode cL_law_ 1430 = .ok (.iload 5, 2) := by decide +kernel
theorem dL_law__1432 : decode cL_law_ 1432 = .ok (.if_icmp .eq 5, 3) := by decide +kernel
theorem dL_law__1435 : decode cL_law_ 1435 = .ok (.iconst 0, 1) := by decide +kernel
theorem dL_law__1436 : decode cL_law_ 1436 = .ok (.ireturn, 1) := by decide +kernel
theorem dL_law__1437 : decode cL_law_ 1437 = .ok (.iload 5, 2) := by decide +kernel
theorem dL_law__1439 : decode cL_law_ 1439 = .ok (.ifCond .ne 15, 3) := by decide +kernel
theorem dL_law__1442 : decode cL_law_ 1442 = .ok (.aload_n 3, 1) := by decide +kernel
theorem dL_law__1443 : decode cL_law_ 1443 = .ok (.iconst 0, 1) := by decide +kernel
theorem dL_law__1444 : decode cL_law_ 1444 = .ok (.laload, 1) := by decide +kernel
theorem dL_law__1445 : decode cL_law_ 1445 = .ok (.iload 6, 2) := by decide +kernel
theorem dL_law__1447 : decode cL_law_ 1447 = .ok (.i2l, 1) := by decide +kernel
theorem dL_law__1448 : decode cL_law_ 1448 = .ok (.lcmp, 1) := by decide +kernel
theorem dL_law__1449 : decode cL_law_ 1449 = .ok (.ifCond .eq 5, 3) := by decide +kernel
theorem dL_law__1452 : decode cL_law_ 1452 = .ok (.iconst 0, 1) := by decide +kernel
theorem dL_law__1453 : decode cL_law_ 1453 = .ok (.ireturn, 1) := by decide +kernel
theorem dL_law__1454 : decode cL_law_ 1454 = .ok (.goto 1211, 3) := by decide +kernel
theorem dL_law__1457 : decode cL_law_ 1457 = .ok (.aload_n 1, 1) := by decide +kernel
theorem dL_law__1458 : decode cL_law_ 1458 = .ok (.aload_n 0, 1) := by decide +kernel
theorem dL_law__1459 : decode cL_law_ 1459 = .ok (.iload 4, 2) := by decide +kernel
theorem dL_law__1461 : decode cL_law_ 1461 = .ok (.iconst 1, 1) := by decide +kernel
theorem dL_law__1462 : decode cL_law_ 1462 = .ok (.iadd, 1) := by decide +kernel
theorem dL_law__1463 : decode cL_law_ 1463 = .ok (.iaload, 1) := by decide +kernel
theorem dL_law__1464 : decode cL_law_ 1464 = .ok (.aload_n 0, 1) := by decide +kernel
theorem dL_law__1465 : decode cL_law_ 1465 = .ok (.iload 4, 2) := by decide +kernel
theorem dL_law__1467 : decode cL_law_ 1467 = .ok (.iconst 2, 1) := by decide +kernel
theorem dL_law__1468 : decode cL_law_ 1468 = .ok (.iadd, 1) := by decide +kernel
theorem dL_law__1469 : decode cL_law_ 1469 = .ok (.iaload, 1) := by decide +kernel
theorem dL_law__1470 : decode cL_law_ 1470 = .ok (.aload_n 0, 1) := by decide +kernel
theorem dL_law__1471 : decode cL_law_ 1471 = .ok (.iload 4, 2) := by decide +kernel
theorem dL_law__1473 : decode cL_law_ 1473 = .ok (.iconst 3, 1) := by decide +kernel
theorem dL_law__1474 : decode cL_law_ 1474 = .ok (.iadd, 1) := by decide +kernel
theorem dL_law__1475 : decode cL_law_ 1475 = .ok (.iaload, 1) := by decide +kernel
theorem dL_law__1476 : decode cL_law_ 1476 = .ok (.aload_n 3, 1) := by decide +kernel
theorem dL_law__1477 : decode cL_law_ 1477 = .ok (.invokestatic 196, 3) := by decide +kernel
theorem dL_law__1480 : decode cL_law_ 1480 = .ok (.istore 5, 2) := by decide +kernel
theorem dL_law__1482 : decode cL_law_ 1482 = .ok (.aload_n 2, 1) := by decide +kernel
theorem dL_law__1483 : decode cL_law_ 1483 = .ok (.aload_n 0, 1) := by decide +kernel
theorem dL_law__1484 : decode cL_law_ 1484 = .ok (.iload 4, 2) := by decide +kernel
theorem dL_law__1486 : decode cL_law_ 1486 = .ok (.iconst 1, 1) := by decide +kernel
theorem dL_law__1487 : decode cL_law_ 1487 = .ok (.iadd, 1) := by decide +kernel
theorem dL_law__1488 : decode cL_law_ 1488 = .ok (.iaload, 1) := by decide +kernel
theorem dL_law__1489 : decode cL_law_ 1489 = .ok (.aload_n 0, 1) := by decide +kernel
theorem dL_law__1490 : decode cL_law_ 1490 = .ok (.iload 4, 2) := by decide +kernel
theorem dL_law__1492 : decode cL_law_ 1492 = .ok (.iconst 2, 1) := by decide +kernel
theorem dL_law__1493 : decode cL_law_ 1493 = .ok (.iadd, 1) := by decide +kernel
theorem dL_law__1494 : decode cL_law_ 1494 = .ok (.iaload, 1) := by decide +kernel
theorem dL_law__1495 : decode cL_law_ 1495 = .ok (.aload_n 0, 1) := by decide +kernel
theorem dL_law__1496 : decode cL_law_ 1496 = .ok (.iload 4, 2) := by decide +kernel
theorem dL_law__1498 : decode cL_law_ 1498 = .ok (.iconst 3, 1) := by decide +kernel
theorem dL_law__1499 : decode cL_law_ 1499 = .ok (.iadd, 1) := by decide +kernel
theorem dL_law__1500 : decode cL_law_ 1500 = .ok (.iaload, 1) := by decide +kernel
theorem dL_law__1501 : decode cL_law_ 1501 = .ok (.invokevirtual 199, 3) := by decide +kernel
theorem dL_law__1504 : decode cL_law_ 1504 = .ok (.istore 6, 2) := by decide +kernel
theorem dL_law__1506 : decode cL_law_ 1506 = .ok (.aload_n 2, 1) := by decide +kernel
theorem dL_law__1507 : decode cL_law_ 1507 = .ok (.invokevirtual 134, 3) := by decide +kernel
theorem dL_law__1510 : decode cL_law_ 1510 = .ok (.iload 5, 2) := by decide +kernel
theorem dL_law__1512 : decode cL_law_ 1512 = .ok (.if_icmp .eq 5, 3) := by decide +kernel
theorem dL_law__1515 : decode cL_law_ 1515 = .ok (.iconst 0, 1) := by decide +kernel
theorem dL_law__1516 : decode cL_law_ 1516 = .ok (.ireturn, 1) := by decide +kernel
theorem dL_law__1517 : decode cL_law_ 1517 = .ok (.iload 5, 2) := by decide +kernel
theorem dL_law__1519 : decode cL_law_ 1519 = .ok (.ifCond .ne 15, 3) := by decide +kernel
theorem dL_law__1522 : decode cL_law_ 1522 = .ok (.aload_n 3, 1) := by decide +kernel
theorem dL_law__1523 : decode cL_law_ 1523 = .ok (.iconst 0, 1) := by decide +kernel
theorem dL_law__1524 : decode cL_law_ 1524 = .ok (.laload, 1) := by decide +kernel
theorem dL_law__1525 : decode cL_law_ 1525 = .ok (.iload 6, 2) := by decide +kernel
theorem dL_law__1527 : decode cL_law_ 1527 = .ok (.i2l, 1) := by decide +kernel
theorem dL_law__1528 : decode cL_law_ 1528 = .ok (.lcmp, 1) := by decide +kernel
theorem dL_law__1529 : decode cL_law_ 1529 = .ok (.ifCond .eq 5, 3) := by decide +kernel
theorem dL_law__1532 : decode cL_law_ 1532 = .ok (.iconst 0, 1) := by decide +kernel
theorem dL_law__1533 : decode cL_law_ 1533 = .ok (.ireturn, 1) := by decide +kernel
theorem dL_law__1534 : decode cL_law_ 1534 = .ok (.goto 1131, 3) := by decide +kernel
theorem dL_law__1537 : decode cL_law_ 1537 = .ok (.aload_n 1, 1) := by decide +kernel
theorem dL_law__1538 : decode cL_law_ 1538 = .ok (.aload_n 0, 1) := by decide +kernel
theorem dL_law__1539 : decode cL_law_ 1539 = .ok (.iload 4, 2) := by decide +kernel
theorem dL_law__1541 : decode cL_law_ 1541 = .ok (.iconst 1, 1) := by decide +kernel
theorem dL_law__1542 : decode cL_law_ 1542 = .ok (.iadd, 1) := by decide +kernel
theorem dL_law__1543 : decode cL_law_ 1543 = .ok (.iaload, 1) := by decide +kernel
theorem dL_law__1544 : decode cL_law_ 1544 = .ok (.aload_n 0, 1) := by decide +kernel
theorem dL_law__1545 : decode cL_law_ 1545 = .ok (.iload 4, 2) := by decide +kernel
theorem dL_law__1547 : decode cL_law_ 1547 = .ok (.iconst 2, 1) := by decide +kernel
theorem dL_law__1548 : decode cL_law_ 1548 = .ok (.iadd, 1) := by decide +kernel
theorem dL_law__1549 : decode cL_law_ 1549 = .ok (.iaload, 1) := by decide +kernel
theorem dL_law__1550 : decode cL_law_ 1550 = .ok (.aload_n 0, 1) := by decide +kernel
theorem dL_law__1551 : decode cL_law_ 1551 = .ok (.iload 4, 2) := by decide +kernel
theorem dL_law__1553 : decode cL_law_ 1553 = .ok (.iconst 3, 1) := by decide +kernel
theorem dL_law__1554 : decode cL_law_ 1554 = .ok (.iadd, 1) := by decide +kernel
theorem dL_law__1555 : decode cL_law_ 1555 = .ok (.iaload, 1) := by decide +kernel
theorem dL_law__1556 : decode cL_law_ 1556 = .ok (.aload_n 3, 1) := by decide +kernel
theorem dL_law__1557 : decode cL_law_ 1557 = .ok (.invokestatic 200, 3) := by decide +kernel
theorem dL_law__1560 : decode cL_law_ 1560 = .ok (.istore 5, 2) := by decide +kernel
theorem dL_law__1562 : decode cL_law_ 1562 = .ok (.aload_n 2, 1) := by decide +kernel
theorem dL_law__1563 : decode cL_law_ 1563 = .ok (.aload_n 0, 1) := by decide +kernel
theorem dL_law__1564 : decode cL_law_ 1564 = .ok (.iload 4, 2) := by decide +kernel
theorem dL_law__1566 : decode cL_law_ 1566 = .ok (.iconst 1, 1) := by decide +kernel
theorem dL_law__1567 : decode cL_law_ 1567 = .ok (.iadd, 1) := by decide +kernel
theorem dL_law__1568 : decode cL_law_ 1568 = .ok (.iaload, 1) := by decide +kernel
theorem dL_law__1569 : decode cL_law_ 1569 = .ok (.aload_n 0, 1) := by decide +kernel
theorem dL_law__1570 : decode cL_law_ 1570 = .ok (.iload 4, 2) := by decide +kernel
theorem dL_law__1572 : decode cL_law_ 1572 = .ok (.iconst 2, 1) := by decide +kernel
theorem dL_law__1573 : decode cL_law_ 1573 = .ok (.iadd, 1) := by decide +kernel
theorem dL_law__1574 : decode cL_law_ 1574 = .ok (.iaload, 1) := by decide +kernel
theorem dL_law__1575 : decode cL_law_ 1575 = .ok (.aload_n 0, 1) := by decide +kernel
theorem dL_law__1576 : decode cL_law_ 1576 = .ok (.iload 4, 2) := by decide +kernel
theorem dL_law__1578 : decode cL_law_ 1578 = .ok (.iconst 3, 1) := by decide +kernel
theorem dL_law__1579 : decode cL_law_ 1579 = .ok (.iadd, 1) := by decide +kernel
theorem dL_law__1580 : decode cL_law_ 1580 = .ok (.iaload, 1) := by decide +kernel
theorem dL_law__1581 : decode cL_law_ 1581 = .ok (.invokevirtual 202, 3) := by decide +kernel
theorem dL_law__1584 : decode cL_law_ 1584 = .ok (.istore 6, 2) := by decide +kernel
theorem dL_law__1586 : decode cL_law_ 1586 = .ok (.aload_n 2, 1) := by decide +kernel
theorem dL_law__1587 : decode cL_law_ 1587 = .ok (.invokevirtual 134, 3) := by decide +kernel
theorem dL_law__1590 : decode cL_law_ 1590 = .ok (.iload 5, 2) := by decide +kernel
theorem dL_law__1592 : decode cL_law_ 1592 = .ok (.if_icmp .eq 5, 3) := by decide +kernel
theorem dL_law__1595 : decode cL_law_ 1595 = .ok (.iconst 0, 1) := by decide +kernel
theorem dL_law__1596 : decode cL_law_ 1596 = .ok (.ireturn, 1) := by decide +kernel
theorem dL_law__1597 : decode cL_law_ 1597 = .ok (.iload 5, 2) := by decide +kernel
theorem dL_law__1599 : decode cL_law_ 1599 = .ok (.ifCond .ne 15, 3) := by decide +kernel
theorem dL_law__1602 : decode cL_law_ 1602 = .ok (.aload_n 3, 1) := by decide +kernel
theorem dL_law__1603 : decode cL_law_ 1603 = .ok (.iconst 0, 1) := by decide +kernel
theorem dL_law__1604 : decode cL_law_ 1604 = .ok (.laload, 1) := by decide +kernel
theorem dL_law__1605 : decode cL_law_ 1605 = .ok (.iload 6, 2) := by decide +kernel
theorem dL_law__1607 : decode cL_law_ 1607 = .ok (.i2l, 1) := by decide +kernel
theorem dL_law__1608 : decode cL_law_ 1608 = .ok (.lcmp, 1) := by decide +kernel
theorem dL_law__1609 : decode cL_law_ 1609 = .ok (.ifCond .eq 5, 3) := by decide +kernel
theorem dL_law__1612 : decode cL_law_ 1612 = .ok (.iconst 0, 1) := by decide +kernel
theorem dL_law__1613 : decode cL_law_ 1613 = .ok (.ireturn, 1) := by decide +kernel
theorem dL_law__1614 : decode cL_law_ 1614 = .ok (.goto 1051, 3) := by decide +kernel
theorem dL_law__1617 : decode cL_law_ 1617 = .ok (.aload_n 1, 1) := by decide +kernel
theorem dL_law__1618 : decode cL_law_ 1618 = .ok (.aload_n 0, 1) := by decide +kernel
theorem dL_law__1619 : decode cL_law_ 1619 = .ok (.iload 4, 2) := by decide +kernel
theorem dL_law__1621 : decode cL_law_ 1621 = .ok (.iconst 1, 1) := by decide +kernel
theorem dL_law__1622 : decode cL_law_ 1622 = .ok (.iadd, 1) := by decide +kernel
theorem dL_law__1623 : decode cL_law_ 1623 = .ok (.iaload, 1) := by decide +kernel
theorem dL_law__1624 : decode cL_law_ 1624 = .ok (.aload_n 0, 1) := by decide +kernel
theorem dL_law__1625 : decode cL_law_ 1625 = .ok (.iload 4, 2) := by decide +kernel
theorem dL_law__1627 : decode cL_law_ 1627 = .ok (.iconst 2, 1) := by decide +kernel
theorem dL_law__1628 : decode cL_law_ 1628 = .ok (.iadd, 1) := by decide +kernel
theorem dL_law__1629 : decode cL_law_ 1629 = .ok (.iaload, 1) := by decide +kernel
theorem dL_law__1630 : decode cL_law_ 1630 = .ok (.aload_n 0, 1) := by decide +kernel
theorem dL_law__1631 : decode cL_law_ 1631 = .ok (.iload 4, 2) := by decide +kernel
theorem dL_law__1633 : decode cL_law_ 1633 = .ok (.iconst 3, 1) := by decide +kernel
theorem dL_law__1634 : decode cL_law_ 1634 = .ok (.iadd, 1) := by decide +kernel
theorem dL_law__1635 : decode cL_law_ 1635 = .ok (.iaload, 1) := by decide +kernel
theorem dL_law__1636 : decode cL_law_ 1636 = .ok (.aload_n 0, 1) := by decide +kernel
theorem dL_law__1637 : decode cL_law_ 1637 = .ok (.iload 4, 2) := by decide +kernel
theorem dL_law__1639 : decode cL_law_ 1639 = .ok (.iconst 4, 1) := by decide +kernel
theorem dL_law__1640 : decode cL_law_ 1640 = .ok (.iadd, 1) := by decide +kernel
theorem dL_law__1641 : decode cL_law_ 1641 = .ok (.iaload, 1) := by decide +kernel
theorem dL_law__1642 : decode cL_law_ 1642 = .ok (.aload_n 3, 1) := by decide +kernel
theorem dL_law__1643 : decode cL_law_ 1643 = .ok (.invokestatic 203, 3) := by decide +kernel
theorem dL_law__1646 : decode cL_law_ 1646 = .ok (.istore 5, 2) := by decide +kernel
theorem dL_law__1648 : decode cL_law_ 1648 = .ok (.aload_n 2, 1) := by decide +kernel
theorem dL_law__1649 : decode cL_law_ 1649 = .ok (.aload_n 0, 1) := by decide +kernel
theorem dL_law__1650 : decode cL_law_ 1650 = .ok (.iload 4, 2) := by decide +kernel
theorem dL_law__1652 : decode cL_law_ 1652 = .ok (.iconst 1, 1) := by decide +kernel
theorem dL_law__1653 : decode cL_law_ 1653 = .ok (.iadd, 1) := by decide +kernel
theorem dL_law__1654 : decode cL_law_ 1654 = .ok (.iaload, 1) := by decide +kernel
theorem dL_law__1655 : decode cL_law_ 1655 = .ok (.aload_n 0, 1) := by decide +kernel
theorem dL_law__1656 : decode cL_law_ 1656 = .ok (.iload 4, 2) := by decide +kernel
theorem dL_law__1658 : decode cL_law_ 1658 = .ok (.iconst 2, 1) := by decide +kernel
theorem dL_law__1659 : decode cL_law_ 1659 = .ok (.iadd, 1) := by decide +kernel
theorem dL_law__1660 : decode cL_law_ 1660 = .ok (.iaload, 1) := by decide +kernel
theorem dL_law__1661 : decode cL_law_ 1661 = .ok (.aload_n 0, 1) := by decide +kernel
theorem dL_law__1662 : decode cL_law_ 1662 = .ok (.iload 4, 2) := by decide +kernel
theorem dL_law__1664 : decode cL_law_ 1664 = .ok (.iconst 3, 1) := by decide +kernel
theorem dL_law__1665 : decode cL_law_ 1665 = .ok (.iadd, 1) := by decide +kernel
theorem dL_law__1666 : decode cL_law_ 1666 = .ok (.iaload, 1) := by decide +kernel
theorem dL_law__1667 : decode cL_law_ 1667 = .ok (.aload_n 0, 1) := by decide +kernel
theorem dL_law__1668 : decode cL_law_ 1668 = .ok (.iload 4, 2) := by decide +kernel
theorem dL_law__1670 : decode cL_law_ 1670 = .ok (.iconst 4, 1) := by decide +kernel
theorem dL_law__1671 : decode cL_law_ 1671 = .ok (.iadd, 1) := by decide +kernel
theorem dL_law__1672 : decode cL_law_ 1672 = .ok (.iaload, 1) := by decide +kernel
theorem dL_law__1673 : decode cL_law_ 1673 = .ok (.invokevirtual 206, 3) := by decide +kernel
theorem dL_law__1676 : decode cL_law_ 1676 = .ok (.istore 6, 2) := by decide +kernel
theorem dL_law__1678 : decode cL_law_ 1678 = .ok (.aload_n 2, 1) := by decide +kernel
theorem dL_law__1679 : decode cL_law_ 1679 = .ok (.invokevirtual 134, 3) := by decide +kernel
theorem dL_law__1682 : decode cL_law_ 1682 = .ok (.iload 5, 2) := by decide +kernel
theorem dL_law__1684 : decode cL_law_ 1684 = .ok (.if_icmp .eq 5, 3) := by decide +kernel
theorem dL_law__1687 : decode cL_law_ 1687 = .ok (.iconst 0, 1) := by decide +kernel
theorem dL_law__1688 : decode cL_law_ 1688 = .ok (.ireturn, 1) := by decide +kernel
theorem dL_law__1689 : decode cL_law_ 1689 = .ok (.iload 5, 2) := by decide +kernel
theorem dL_law__1691 : decode cL_law_ 1691 = .ok (.ifCond .ne 15, 3) := by decide +kernel
theorem dL_law__1694 : decode cL_law_ 1694 = .ok (.aload_n 3, 1) := by decide +kernel
theorem dL_law__1695 : decode cL_law_ 1695 = .ok (.iconst 0, 1) := by decide +kernel
theorem dL_law__1696 : decode cL_law_ 1696 = .ok (.laload, 1) := by decide +kernel
theorem dL_law__1697 : decode cL_law_ 1697 = .ok (.iload 6, 2) := by decide +kernel
theorem dL_law__1699 : decode cL_law_ 1699 = .ok (.i2l, 1) := by decide +kernel
theorem dL_law__1700 : decode cL_law_ 1700 = .ok (.lcmp, 1) := by decide +kernel
theorem dL_law__1701 : decode cL_law_ 1701 = .ok (.ifCond .eq 5, 3) := by decide +kernel
theorem dL_law__1704 : decode cL_law_ 1704 = .ok (.iconst 0, 1) := by decide +kernel
theorem dL_law__1705 : decode cL_law_ 1705 = .ok (.ireturn, 1) := by decide +kernel
theorem dL_law__1706 : decode cL_law_ 1706 = .ok (.goto 959, 3) := by decide +kernel
theorem dL_law__1709 : decode cL_law_ 1709 = .ok (.aload_n 1, 1) := by decide +kernel
theorem dL_law__1710 : decode cL_law_ 1710 = .ok (.aload_n 0, 1) := by decide +kernel
theorem dL_law__1711 : decode cL_law_ 1711 = .ok (.iload 4, 2) := by decide +kernel
theorem dL_law__1713 : decode cL_law_ 1713 = .ok (.iconst 1, 1) := by decide +kernel
theorem dL_law__1714 : decode cL_law_ 1714 = .ok (.iadd, 1) := by decide +kernel
theorem dL_law__1715 : decode cL_law_ 1715 = .ok (.iaload, 1) := by decide +kernel
theorem dL_law__1716 : decode cL_law_ 1716 = .ok (.aload_n 0, 1) := by decide +kernel
theorem dL_law__1717 : decode cL_law_ 1717 = .ok (.iload 4, 2) := by decide +kernel
theorem dL_law__1719 : decode cL_law_ 1719 = .ok (.iconst 2, 1) := by decide +kernel
theorem dL_law__1720 : decode cL_law_ 1720 = .ok (.iadd, 1) := by decide +kernel
theorem dL_law__1721 : decode cL_law_ 1721 = .ok (.iaload, 1) := by decide +kernel
theorem dL_law__1722 : decode cL_law_ 1722 = .ok (.aload_n 0, 1) := by decide +kernel
theorem dL_law__1723 : decode cL_law_ 1723 = .ok (.iload 4, 2) := by decide +kernel
theorem dL_law__1725 : decode cL_law_ 1725 = .ok (.iconst 3, 1) := by decide +kernel
theorem dL_law__1726 : decode cL_law_ 1726 = .ok (.iadd, 1) := by decide +kernel
theorem dL_law__1727 : decode cL_law_ 1727 = .ok (.iaload, 1) := by decide +kernel
theorem dL_law__1728 : decode cL_law_ 1728 = .ok (.aload_n 0, 1) := by decide +kernel
theorem dL_law__1729 : decode cL_law_ 1729 = .ok (.iload 4, 2) := by decide +kernel
theorem dL_law__1731 : decode cL_law_ 1731 = .ok (.iconst 4, 1) := by decide +kernel
theorem dL_law__1732 : decode cL_law_ 1732 = .ok (.iadd, 1) := by decide +kernel
theorem dL_law__1733 : decode cL_law_ 1733 = .ok (.iaload, 1) := by decide +kernel
theorem dL_law__1734 : decode cL_law_ 1734 = .ok (.aload_n 3, 1) := by decide +kernel
theorem dL_law__1735 : decode cL_law_ 1735 = .ok (.invokestatic 207, 3) := by decide +kernel
theorem dL_law__1738 : decode cL_law_ 1738 = .ok (.istore 5, 2) := by decide +kernel
theorem dL_law__1740 : decode cL_law_ 1740 = .ok (.aload_n 2, 1) := by decide +kernel
theorem dL_law__1741 : decode cL_law_ 1741 = .ok (.aload_n 0, 1) := by decide +kernel
theorem dL_law__1742 : decode cL_law_ 1742 = .ok (.iload 4, 2) := by decide +kernel
theorem dL_law__1744 : decode cL_law_ 1744 = .ok (.iconst 1, 1) := by decide +kernel
theorem dL_law__1745 : decode cL_law_ 1745 = .ok (.iadd, 1) := by decide +kernel
theorem dL_law__1746 : decode cL_law_ 1746 = .ok (.iaload, 1) := by decide +kernel
theorem dL_law__1747 : decode cL_law_ 1747 = .ok (.aload_n 0, 1) := by decide +kernel
theorem dL_law__1748 : decode cL_law_ 1748 = .ok (.iload 4, 2) := by decide +kernel
theorem dL_law__1750 : decode cL_law_ 1750 = .ok (.iconst 2, 1) := by decide +kernel
theorem dL_law__1751 : decode cL_law_ 1751 = .ok (.iadd, 1) := by decide +kernel
theorem dL_law__1752 : decode cL_law_ 1752 = .ok (.iaload, 1) := by decide +kernel
theorem dL_law__1753 : decode cL_law_ 1753 = .ok (.aload_n 0, 1) := by decide +kernel
theorem dL_law__1754 : decode cL_law_ 1754 = .ok (.iload 4, 2) := by decide +kernel
theorem dL_law__1756 : decode cL_law_ 1756 = .ok (.iconst 3, 1) := by decide +kernel
theorem dL_law__1757 : decode cL_law_ 1757 = .ok (.iadd, 1) := by decide +kernel
theorem dL_law__1758 : decode cL_law_ 1758 = .ok (.iaload, 1) := by decide +kernel
theorem dL_law__1759 : decode cL_law_ 1759 = .ok (.aload_n 0, 1) := by decide +kernel
theorem dL_law__1760 : decode cL_law_ 1760 = .ok (.iload 4, 2) := by decide +kernel
theorem dL_law__1762 : decode cL_law_ 1762 = .ok (.iconst 4, 1) := by decide +kernel
theorem dL_law__1763 : decode cL_law_ 1763 = .ok (.iadd, 1) := by decide +kernel
theorem dL_law__1764 : decode cL_law_ 1764 = .ok (.iaload, 1) := by decide +kernel
theorem dL_law__1765 : decode cL_law_ 1765 = .ok (.invokevirtual 209, 3) := by decide +kernel
theorem dL_law__1768 : decode cL_law_ 1768 = .ok (.istore 6, 2) := by decide +kernel
theorem dL_law__1770 : decode cL_law_ 1770 = .ok (.aload_n 2, 1) := by decide +kernel
theorem dL_law__1771 : decode cL_law_ 1771 = .ok (.invokevirtual 134, 3) := by decide +kernel
theorem dL_law__1774 : decode cL_law_ 1774 = .ok (.iload 5, 2) := by decide +kernel
theorem dL_law__1776 : decode cL_law_ 1776 = .ok (.if_icmp .eq 5, 3) := by decide +kernel
theorem dL_law__1779 : decode cL_law_ 1779 = .ok (.iconst 0, 1) := by decide +kernel
theorem dL_law__1780 : decode cL_law_ 1780 = .ok (.ireturn, 1) := by decide +kernel
theorem dL_law__1781 : decode cL_law_ 1781 = .ok (.iload 5, 2) := by decide +kernel
theorem dL_law__1783 : decode cL_law_ 1783 = .ok (.ifCond .ne 15, 3) := by decide +kernel
theorem dL_law__1786 : decode cL_law_ 1786 = .ok (.aload_n 3, 1) := by decide +kernel
theorem dL_law__1787 : decode cL_law_ 1787 = .ok (.iconst 0, 1) := by decide +kernel
theorem dL_law__1788 : decode cL_law_ 1788 = .ok (.laload, 1) := by decide +kernel
theorem dL_law__1789 : decode cL_law_ 1789 = .ok (.iload 6, 2) := by decide +kernel
theorem dL_law__1791 : decode cL_law_ 1791 = .ok (.i2l, 1) := by decide +kernel
theorem dL_law__1792 : decode cL_law_ 1792 = .ok (.lcmp, 1) := by decide +kernel
theorem dL_law__1793 : decode cL_law_ 1793 = .ok (.ifCond .eq 5, 3) := by decide +kernel
theorem dL_law__1796 : decode cL_law_ 1796 = .ok (.iconst 0, 1) := by decide +kernel
theorem dL_law__1797 : decode cL_law_ 1797 = .ok (.ireturn, 1) := by decide +kernel
theorem dL_law__1798 : decode cL_law_ 1798 = .ok (.goto 867, 3) := by decide +kernel
theorem dL_law__1801 : decode cL_law_ 1801 = .ok (.aload_n 1, 1) := by decide +kernel
theorem dL_law__1802 : decode cL_law_ 1802 = .ok (.aload_n 0, 1) := by decide +kernel
theorem dL_law__1803 : decode cL_law_ 1803 = .ok (.iload 4, 2) := by decide +kernel
theorem dL_law__1805 : decode cL_law_ 1805 = .ok (.iconst 1, 1) := by decide +kernel
theorem dL_law__1806 : decode cL_law_ 1806 = .ok (.iadd, 1) := by decide +kernel
theorem dL_law__1807 : decode cL_law_ 1807 = .ok (.iaload, 1) := by decide +kernel
theorem dL_law__1808 : decode cL_law_ 1808 = .ok (.aload_n 0, 1) := by decide +kernel
theorem dL_law__1809 : decode cL_law_ 1809 = .ok (.iload 4, 2) := by decide +kernel
theorem dL_law__1811 : decode cL_law_ 1811 = .ok (.iconst 2, 1) := by decide +kernel
theorem dL_law__1812 : decode cL_law_ 1812 = .ok (.iadd, 1) := by decide +kernel
theorem dL_law__1813 : decode cL_law_ 1813 = .ok (.iaload, 1) := by decide +kernel
theorem dL_law__1814 : decode cL_law_ 1814 = .ok (.aload_n 0, 1) := by decide +kernel
theorem dL_law__1815 : decode cL_law_ 1815 = .ok (.iload 4, 2) := by decide +kernel
theorem dL_law__1817 : decode cL_law_ 1817 = .ok (.iconst 3, 1) := by decide +kernel
theorem dL_law__1818 : decode cL_law_ 1818 = .ok (.iadd, 1) := by decide +kernel
theorem dL_law__1819 : decode cL_law_ 1819 = .ok (.iaload, 1) := by decide +kernel
theorem dL_law__1820 : decode cL_law_ 1820 = .ok (.aload_n 3, 1) := by decide +kernel
theorem dL_law__1821 : decode cL_law_ 1821 = .ok (.invokestatic 210, 3) := by decide +kernel
theorem dL_law__1824 : decode cL_law_ 1824 = .ok (.istore 5, 2) := by decide +kernel
theorem dL_law__1826 : decode cL_law_ 1826 = .ok (.aload_n 2, 1) := by decide +kernel
theorem dL_law__1827 : decode cL_law_ 1827 = .ok (.aload_n 0, 1) := by decide +kernel
theorem dL_law__1828 : decode cL_law_ 1828 = .ok (.iload 4, 2) := by decide +kernel
theorem dL_law__1830 : decode cL_law_ 1830 = .ok (.iconst 1, 1) := by decide +kernel
theorem dL_law__1831 : decode cL_law_ 1831 = .ok (.iadd, 1) := by decide +kernel
theorem dL_law__1832 : decode cL_law_ 1832 = .ok (.iaload, 1) := by decide +kernel
theorem dL_law__1833 : decode cL_law_ 1833 = .ok (.aload_n 0, 1) := by decide +kernel
theorem dL_law__1834 : decode cL_law_ 1834 = .ok (.iload 4, 2) := by decide +kernel
theorem dL_law__1836 : decode cL_law_ 1836 = .ok (.iconst 2, 1) := by decide +kernel
theorem dL_law__1837 : decode cL_law_ 1837 = .ok (.iadd, 1) := by decide +kernel
theorem dL_law__1838 : decode cL_law_ 1838 = .ok (.iaload, 1) := by decide +kernel
theorem dL_law__1839 : decode cL_law_ 1839 = .ok (.aload_n 0, 1) := by decide +kernel
theorem dL_law__1840 : decode cL_law_ 1840 = .ok (.iload 4, 2) := by decide +kernel
theorem dL_law__1842 : decode cL_law_ 1842 = .ok (.iconst 3, 1) := by decide +kernel
theorem dL_law__1843 : decode cL_law_ 1843 = .ok (.iadd, 1) := by decide +kernel
theorem dL_law__1844 : decode cL_law_ 1844 = .ok (.iaload, 1) := by decide +kernel
theorem dL_law__1845 : decode cL_law_ 1845 = .ok (.invokevirtual 212, 3) := by decide +kernel
theorem dL_law__1848 : decode cL_law_ 1848 = .ok (.istore 6, 2) := by decide +kernel
theorem dL_law__1850 : decode cL_law_ 1850 = .ok (.aload_n 2, 1) := by decide +kernel
theorem dL_law__1851 : decode cL_law_ 1851 = .ok (.invokevirtual 134, 3) := by decide +kernel
theorem dL_law__1854 : decode cL_law_ 1854 = .ok (.iload 5, 2) := by decide +kernel
theorem dL_law__1856 : decode cL_law_ 1856 = .ok (.if_icmp .eq 5, 3) := by decide +kernel
theorem dL_law__1859 : decode cL_law_ 1859 = .ok (.iconst 0, 1) := by decide +kernel
theorem dL_law__1860 : decode cL_law_ 1860 = .ok (.ireturn, 1) := by decide +kernel
theorem dL_law__1861 : decode cL_law_ 1861 = .ok (.iload 5, 2) := by decide +kernel
theorem dL_law__1863 : decode cL_law_ 1863 = .ok (.ifCond .ne 15, 3) := by decide +kernel
theorem dL_law__1866 : decode cL_law_ 1866 = .ok (.aload_n 3, 1) := by decide +kernel
theorem dL_law__1867 : decode cL_law_ 1867 = .ok (.iconst 0, 1) := by decide +kernel
theorem dL_law__1868 : decode cL_law_ 1868 = .ok (.laload, 1) := by decide +kernel
theorem dL_law__1869 : decode cL_law_ 1869 = .ok (.iload 6, 2) := by decide +kernel
theorem dL_law__1871 : decode cL_law_ 1871 = .ok (.i2l, 1) := by decide +kernel
theorem dL_law__1872 : decode cL_law_ 1872 = .ok (.lcmp, 1) := by decide +kernel
theorem dL_law__1873 : decode cL_law_ 1873 = .ok (.ifCond .eq 5, 3) := by decide +kernel
theorem dL_law__1876 : decode cL_law_ 1876 = .ok (.iconst 0, 1) := by decide +kernel
theorem dL_law__1877 : decode cL_law_ 1877 = .ok (.ireturn, 1) := by decide +kernel
theorem dL_law__1878 : decode cL_law_ 1878 = .ok (.goto 787, 3) := by decide +kernel
theorem dL_law__1881 : decode cL_law_ 1881 = .ok (.aload_n 1, 1) := by decide +kernel
theorem dL_law__1882 : decode cL_law_ 1882 = .ok (.aload_n 0, 1) := by decide +kernel
theorem dL_law__1883 : decode cL_law_ 1883 = .ok (.iload 4, 2) := by decide +kernel
theorem dL_law__1885 : decode cL_law_ 1885 = .ok (.iconst 1, 1) := by decide +kernel
theorem dL_law__1886 : decode cL_law_ 1886 = .ok (.iadd, 1) := by decide +kernel
theorem dL_law__1887 : decode cL_law_ 1887 = .ok (.iaload, 1) := by decide +kernel
theorem dL_law__1888 : decode cL_law_ 1888 = .ok (.aload_n 0, 1) := by decide +kernel
theorem dL_law__1889 : decode cL_law_ 1889 = .ok (.iload 4, 2) := by decide +kernel
theorem dL_law__1891 : decode cL_law_ 1891 = .ok (.iconst 2, 1) := by decide +kernel
theorem dL_law__1892 : decode cL_law_ 1892 = .ok (.iadd, 1) := by decide +kernel
theorem dL_law__1893 : decode cL_law_ 1893 = .ok (.iaload, 1) := by decide +kernel
theorem dL_law__1894 : decode cL_law_ 1894 = .ok (.aload_n 0, 1) := by decide +kernel
theorem dL_law__1895 : decode cL_law_ 1895 = .ok (.iload 4, 2) := by decide +kernel
theorem dL_law__1897 : decode cL_law_ 1897 = .ok (.iconst 3, 1) := by decide +kernel
theorem dL_law__1898 : decode cL_law_ 1898 = .ok (.iadd, 1) := by decide +kernel
theorem dL_law__1899 : decode cL_law_ 1899 = .ok (.iaload, 1) := by decide +kernel
theorem dL_law__1900 : decode cL_law_ 1900 = .ok (.aload_n 3, 1) := by decide +kernel
theorem dL_law__1901 : decode cL_law_ 1901 = .ok (.invokestatic 213, 3) := by decide +kernel
theorem dL_law__1904 : decode cL_law_ 1904 = .ok (.istore 5, 2) := by decide +kernel
theorem dL_law__1906 : decode cL_law_ 1906 = .ok (.aload_n 2, 1) := by decide +kernel
theorem dL_law__1907 : decode cL_law_ 1907 = .ok (.aload_n 0, 1) := by decide +kernel
theorem dL_law__1908 : decode cL_law_ 1908 = .ok (.iload 4, 2) := by decide +kernel
theorem dL_law__1910 : decode cL_law_ 1910 = .ok (.iconst 1, 1) := by decide +kernel
theorem dL_law__1911 : decode cL_law_ 1911 = .ok (.iadd, 1) := by decide +kernel
theorem dL_law__1912 : decode cL_law_ 1912 = .ok (.iaload, 1) := by decide +kernel
theorem dL_law__1913 : decode cL_law_ 1913 = .ok (.aload_n 0, 1) := by decide +kernel
theorem dL_law__1914 : decode cL_law_ 1914 = .ok (.iload 4, 2) := by decide +kernel
theorem dL_law__1916 : decode cL_law_ 1916 = .ok (.iconst 2, 1) := by decide +kernel
theorem dL_law__1917 : decode cL_law_ 1917 = .ok (.iadd, 1) := by decide +kernel
theorem dL_law__1918 : decode cL_law_ 1918 = .ok (.iaload, 1) := by decide +kernel
theorem dL_law__1919 : decode cL_law_ 1919 = .ok (.aload_n 0, 1) := by decide +kernel
theorem dL_law__1920 : decode cL_law_ 1920 = .ok (.iload 4, 2) := by decide +kernel
theorem dL_law__1922 : decode cL_law_ 1922 = .ok (.iconst 3, 1) := by decide +kernel
theorem dL_law__1923 : decode cL_law_ 1923 = .ok (.iadd, 1) := by decide +kernel
theorem dL_law__1924 : decode cL_law_ 1924 = .ok (.iaload, 1) := by decide +kernel
theorem dL_law__1925 : decode cL_law_ 1925 = .ok (.invokevirtual 215, 3) := by decide +kernel
theorem dL_law__1928 : decode cL_law_ 1928 = .ok (.istore 6, 2) := by decide +kernel
theorem dL_law__1930 : decode cL_law_ 1930 = .ok (.aload_n 2, 1) := by decide +kernel
theorem dL_law__1931 : decode cL_law_ 1931 = .ok (.invokevirtual 134, 3) := by decide +kernel
theorem dL_law__1934 : decode cL_law_ 1934 = .ok (.iload 5, 2) := by decide +kernel
theorem dL_law__1936 : decode cL_law_ 1936 = .ok (.if_icmp .eq 5, 3) := by decide +kernel
theorem dL_law__1939 : decode cL_law_ 1939 = .ok (.iconst 0, 1) := by decide +kernel
theorem dL_law__1940 : decode cL_law_ 1940 = .ok (.ireturn, 1) := by decide +kernel
theorem dL_law__1941 : decode cL_law_ 1941 = .ok (.iload 5, 2) := by decide +kernel
theorem dL_law__1943 : decode cL_law_ 1943 = .ok (.ifCond .ne 15, 3) := by decide +kernel
theorem dL_law__1946 : decode cL_law_ 1946 = .ok (.aload_n 3, 1) := by decide +kernel
theorem dL_law__1947 : decode cL_law_ 1947 = .ok (.iconst 0, 1) := by decide +kernel
theorem dL_law__1948 : decode cL_law_ 1948 = .ok (.laload, 1) := by decide +kernel
theorem dL_law__1949 : decode cL_law_ 1949 = .ok (.iload 6, 2) := by decide +kernel
theorem dL_law__1951 : decode cL_law_ 1951 = .ok (.i2l, 1) := by decide +kernel
theorem dL_law__1952 : decode cL_law_ 1952 = .ok (.lcmp, 1) := by decide +kernel
theorem dL_law__1953 : decode cL_law_ 1953 = .ok (.ifCond .eq 5, 3) := by decide +kernel
theorem dL_law__1956 : decode cL_law_ 1956 = .ok (.iconst 0, 1) := by decide +kernel
theorem dL_law__1957 : decode cL_law_ 1957 = .ok (.ireturn, 1) := by decide +kernel
theorem dL_law__1958 : decode cL_law_ 1958 = .ok (.goto 707, 3) := by decide +kernel
theorem dL_law__1961 : decode cL_law_ 1961 = .ok (.aload_n 1, 1) := by decide +kernel
theorem dL_law__1962 : decode cL_law_ 1962 = .ok (.invokevirtual 216, 3) := by decide +kernel
theorem dL_law__1965 : decode cL_law_ 1965 = .ok (.aload_n 2, 1) := by decide +kernel
theorem dL_law__1966 : decode cL_law_ 1966 = .ok (.invokevirtual 219, 3) := by decide +kernel
theorem dL_law__1969 : decode cL_law_ 1969 = .ok (.if_icmp .eq 696, 3) := by decide +kernel
theorem dL_law__1972 : decode cL_law_ 1972 = .ok (.iconst 0, 1) := by decide +kernel
theorem dL_law__1973 : decode cL_law_ 1973 = .ok (.ireturn, 1) := by decide +kernel
theorem dL_law__1974 : decode cL_law_ 1974 = .ok (.aload_n 1, 1) := by decide +kernel
theorem dL_law__1975 : decode cL_law_ 1975 = .ok (.aload_n 0, 1) := by decide +kernel
theorem dL_law__1976 : decode cL_law_ 1976 = .ok (.iload 4, 2) := by decide +kernel
theorem dL_law__1978 : decode cL_law_ 1978 = .ok (.iconst 1, 1) := by decide +kernel
theorem dL_law__1979 : decode cL_law_ 1979 = .ok (.iadd, 1) := by decide +kernel
theorem dL_law__1980 : decode cL_law_ 1980 = .ok (.iaload, 1) := by decide +kernel
theorem dL_law__1981 : decode cL_law_ 1981 = .ok (.aload_n 3, 1) := by decide +kernel
theorem dL_law__1982 : decode cL_law_ 1982 = .ok (.invokestatic 220, 3) := by decide +kernel
theorem dL_law__1985 : decode cL_law_ 1985 = .ok (.istore 5, 2) := by decide +kernel
theorem dL_law__1987 : decode cL_law_ 1987 = .ok (.aload_n 2, 1) := by decide +kernel
theorem dL_law__1988 : decode cL_law_ 1988 = .ok (.aload_n 0, 1) := by decide +kernel
theorem dL_law__1989 : decode cL_law_ 1989 = .ok (.iload 4, 2) := by decide +kernel
theorem dL_law__1991 : decode cL_law_ 1991 = .ok (.iconst 1, 1) := by decide +kernel
theorem dL_law__1992 : decode cL_law_ 1992 = .ok (.iadd, 1) := by decide +kernel
theorem dL_law__1993 : decode cL_law_ 1993 = .ok (.iaload, 1) := by decide +kernel
theorem dL_law__1994 : decode cL_law_ 1994 = .ok (.invokevirtual 222, 3) := by decide +kernel
theorem dL_law__1997 : decode cL_law_ 1997 = .ok (.istore 6, 2) := by decide +kernel
theorem dL_law__1999 : decode cL_law_ 1999 = .ok (.aload_n 2, 1) := by decide +kernel
theorem dL_law__2000 : decode cL_law_ 2000 = .ok (.invokevirtual 134, 3) := by decide +kernel
theorem dL_law__2003 : decode cL_law_ 2003 = .ok (.iload 5, 2) := by decide +kernel
theorem dL_law__2005 : decode cL_law_ 2005 = .ok (.if_icmp .eq 5, 3) := by decide +kernel
theorem dL_law__2008 : decode cL_law_ 2008 = .ok (.iconst 0, 1) := by decide +kernel
theorem dL_law__2009 : decode cL_law_ 2009 = .ok (.ireturn, 1) := by decide +kernel
theorem dL_law__2010 : decode cL_law_ 2010 = .ok (.iload 5, 2) := by decide +kernel
theorem dL_law__2012 : decode cL_law_ 2012 = .ok (.ifCond .ne 15, 3) := by decide +kernel
theorem dL_law__2015 : decode cL_law_ 2015 = .ok (.aload_n 3, 1) := by decide +kernel
theorem dL_law__2016 : decode cL_law_ 2016 = .ok (.iconst 0, 1) := by decide +kernel
theorem dL_law__2017 : decode cL_law_ 2017 = .ok (.laload, 1) := by decide +kernel
theorem dL_law__2018 : decode cL_law_ 2018 = .ok (.iload 6, 2) := by decide +kernel
theorem dL_law__2020 : decode cL_law_ 2020 = .ok (.i2l, 1) := by decide +kernel
theorem dL_law__2021 : decode cL_law_ 2021 = .ok (.lcmp, 1) := by decide +kernel
theorem dL_law__2022 : decode cL_law_ 2022 = .ok (.ifCond .eq 5, 3) := by decide +kernel
theorem dL_law__2025 : decode cL_law_ 2025 = .ok (.iconst 0, 1) := by decide +kernel
theorem dL_law__2026 : decode cL_law_ 2026 = .ok (.ireturn, 1) := by decide +kernel
theorem dL_law__2027 : decode cL_law_ 2027 = .ok (.goto 638, 3) := by decide +kernel
theorem dL_law__2030 : decode cL_law_ 2030 = .ok (.aload_n 1, 1) := by decide +kernel
theorem dL_law__2031 : decode cL_law_ 2031 = .ok (.aload_n 0, 1) := by decide +kernel
theorem dL_law__2032 : decode cL_law_ 2032 = .ok (.iload 4, 2) := by decide +kernel
theorem dL_law__2034 : decode cL_law_ 2034 = .ok (.iconst 1, 1) := by decide +kernel
theorem dL_law__2035 : decode cL_law_ 2035 = .ok (.iadd, 1) := by decide +kernel
theorem dL_law__2036 : decode cL_law_ 2036 = .ok (.iaload, 1) := by decide +kernel
theorem dL_law__2037 : decode cL_law_ 2037 = .ok (.invokevirtual 223, 3) := by decide +kernel
theorem dL_law__2040 : decode cL_law_ 2040 = .ok (.aload_n 2, 1) := by decide +kernel
theorem dL_law__2041 : decode cL_law_ 2041 = .ok (.aload_n 0, 1) := by decide +kernel
theorem dL_law__2042 : decode cL_law_ 2042 = .ok (.iload 4, 2) := by decide +kernel
theorem dL_law__2044 : decode cL_law_ 2044 = .ok (.iconst 1, 1) := by decide +kernel
theorem dL_law__2045 : decode cL_law_ 2045 = .ok (.iadd, 1) := by decide +kernel
theorem dL_law__2046 : decode cL_law_ 2046 = .ok (.iaload, 1) := by decide +kernel
theorem dL_law__2047 : decode cL_law_ 2047 = .ok (.invokevirtual 226, 3) := by decide +kernel
theorem dL_law__2050 : decode cL_law_ 2050 = .ok (.if_icmp .eq 615, 3) := by decide +kernel
theorem dL_law__2053 : decode cL_law_ 2053 = .ok (.iconst 0, 1) := by decide +kernel
theorem dL_law__2054 : decode cL_law_ 2054 = .ok (.ireturn, 1) := by decide +kernel
theorem dL_law__2055 : decode cL_law_ 2055 = .ok (.aload_n 1, 1) := by decide +kernel
theorem dL_law__2056 : decode cL_law_ 2056 = .ok (.aload_n 0, 1) := by decide +kernel
theorem dL_law__2057 : decode cL_law_ 2057 = .ok (.iload 4, 2) := by decide +kernel
theorem dL_law__2059 : decode cL_law_ 2059 = .ok (.iconst 1, 1) := by decide +kernel
theorem dL_law__2060 : decode cL_law_ 2060 = .ok (.iadd, 1) := by decide +kernel
theorem dL_law__2061 : decode cL_law_ 2061 = .ok (.iaload, 1) := by decide +kernel
theorem dL_law__2062 : decode cL_law_ 2062 = .ok (.aload_n 3, 1) := by decide +kernel
theorem dL_law__2063 : decode cL_law_ 2063 = .ok (.invokestatic 227, 3) := by decide +kernel
theorem dL_law__2066 : decode cL_law_ 2066 = .ok (.istore 5, 2) := by decide +kernel
theorem dL_law__2068 : decode cL_law_ 2068 = .ok (.aload_n 2, 1) := by decide +kernel
theorem dL_law__2069 : decode cL_law_ 2069 = .ok (.aload_n 0, 1) := by decide +kernel
theorem dL_law__2070 : decode cL_law_ 2070 = .ok (.iload 4, 2) := by decide +kernel
theorem dL_law__2072 : decode cL_law_ 2072 = .ok (.iconst 1, 1) := by decide +kernel
theorem dL_law__2073 : decode cL_law_ 2073 = .ok (.iadd, 1) := by decide +kernel
theorem dL_law__2074 : decode cL_law_ 2074 = .ok (.iaload, 1) := by decide +kernel
theorem dL_law__2075 : decode cL_law_ 2075 = .ok (.invokevirtual 229, 3) := by decide +kernel
theorem dL_law__2078 : decode cL_law_ 2078 = .ok (.istore 6, 2) := by decide +kernel
theorem dL_law__2080 : decode cL_law_ 2080 = .ok (.aload_n 2, 1) := by decide +kernel
theorem dL_law__2081 : decode cL_law_ 2081 = .ok (.invokevirtual 134, 3) := by decide +kernel
theorem dL_law__2084 : decode cL_law_ 2084 = .ok (.iload 5, 2) := by decide +kernel
theorem dL_law__2086 : decode cL_law_ 2086 = .ok (.if_icmp .eq 5, 3) := by decide +kernel
theorem dL_law__2089 : decode cL_law_ 2089 = .ok (.iconst 0, 1) := by decide +kernel
theorem dL_law__2090 : decode cL_law_ 2090 = .ok (.ireturn, 1) := by decide +kernel
theorem dL_law__2091 : decode cL_law_ 2091 = .ok (.iload 5, 2) := by decide +kernel
theorem dL_law__2093 : decode cL_law_ 2093 = .ok (.ifCond .ne 15, 3) := by decide +kernel
theorem dL_law__2096 : decode cL_law_ 2096 = .ok (.aload_n 3, 1) := by decide +kernel
theorem dL_law__2097 : decode cL_law_ 2097 = .ok (.iconst 0, 1) := by decide +kernel
theorem dL_law__2098 : decode cL_law_ 2098 = .ok (.laload, 1) := by decide +kernel
theorem dL_law__2099 : decode cL_law_ 2099 = .ok (.iload 6, 2) := by decide +kernel
theorem dL_law__2101 : decode cL_law_ 2101 = .ok (.i2l, 1) := by decide +kernel
theorem dL_law__2102 : decode cL_law_ 2102 = .ok (.lcmp, 1) := by decide +kernel
theorem dL_law__2103 : decode cL_law_ 2103 = .ok (.ifCond .eq 5, 3) := by decide +kernel
theorem dL_law__2106 : decode cL_law_ 2106 = .ok (.iconst 0, 1) := by decide +kernel
theorem dL_law__2107 : decode cL_law_ 2107 = .ok (.ireturn, 1) := by decide +kernel
theorem dL_law__2108 : decode cL_law_ 2108 = .ok (.goto 557, 3) := by decide +kernel
theorem dL_law__2111 : decode cL_law_ 2111 = .ok (.aload_n 1, 1) := by decide +kernel
theorem dL_law__2112 : decode cL_law_ 2112 = .ok (.aload_n 0, 1) := by decide +kernel
theorem dL_law__2113 : decode cL_law_ 2113 = .ok (.iload 4, 2) := by decide +kernel
theorem dL_law__2115 : decode cL_law_ 2115 = .ok (.iconst 1, 1) := by decide +kernel
theorem dL_law__2116 : decode cL_law_ 2116 = .ok (.iadd, 1) := by decide +kernel
theorem dL_law__2117 : decode cL_law_ 2117 = .ok (.iaload, 1) := by decide +kernel
theorem dL_law__2118 : decode cL_law_ 2118 = .ok (.aload_n 0, 1) := by decide +kernel
theorem dL_law__2119 : decode cL_law_ 2119 = .ok (.iload 4, 2) := by decide +kernel
theorem dL_law__2121 : decode cL_law_ 2121 = .ok (.iconst 2, 1) := by decide +kernel
theorem dL_law__2122 : decode cL_law_ 2122 = .ok (.iadd, 1) := by decide +kernel
theorem dL_law__2123 : decode cL_law_ 2123 = .ok (.iaload, 1) := by decide +kernel
theorem dL_law__2124 : decode cL_law_ 2124 = .ok (.aload_n 3, 1) := by decide +kernel
theorem dL_law__2125 : decode cL_law_ 2125 = .ok (.invokestatic 230, 3) := by decide +kernel
theorem dL_law__2128 : decode cL_law_ 2128 = .ok (.istore 5, 2) := by decide +kernel
theorem dL_law__2130 : decode cL_law_ 2130 = .ok (.aload_n 2, 1) := by decide +kernel
theorem dL_law__2131 : decode cL_law_ 2131 = .ok (.aload_n 0, 1) := by decide +kernel
theorem dL_law__2132 : decode cL_law_ 2132 = .ok (.iload 4, 2) := by decide +kernel
theorem dL_law__2134 : decode cL_law_ 2134 = .ok (.iconst 1, 1) := by decide +kernel
theorem dL_law__2135 : decode cL_law_ 2135 = .ok (.iadd, 1) := by decide +kernel
theorem dL_law__2136 : decode cL_law_ 2136 = .ok (.iaload, 1) := by decide +kernel
theorem dL_law__2137 : decode cL_law_ 2137 = .ok (.aload_n 0, 1) := by decide +kernel
theorem dL_law__2138 : decode cL_law_ 2138 = .ok (.iload 4, 2) := by decide +kernel
theorem dL_law__2140 : decode cL_law_ 2140 = .ok (.iconst 2, 1) := by decide +kernel
theorem dL_law__2141 : decode cL_law_ 2141 = .ok (.iadd, 1) := by decide +kernel
theorem dL_law__2142 : decode cL_law_ 2142 = .ok (.iaload, 1) := by decide +kernel
theorem dL_law__2143 : decode cL_law_ 2143 = .ok (.invokevirtual 232, 3) := by decide +kernel
theorem dL_law__2146 : decode cL_law_ 2146 = .ok (.istore 6, 2) := by decide +kernel
theorem dL_law__2148 : decode cL_law_ 2148 = .ok (.aload_n 2, 1) := by decide +kernel
theorem dL_law__2149 : decode cL_law_ 2149 = .ok (.invokevirtual 134, 3) := by decide +kernel
theorem dL_law__2152 : decode cL_law_ 2152 = .ok (.iload 5, 2) := by decide +kernel
theorem dL_law__2154 : decode cL_law_ 2154 = .ok (.if_icmp .eq 5, 3) := by decide +kernel
theorem dL_law__2157 : decode cL_law_ 2157 = .ok (.iconst 0, 1) := by decide +kernel
theorem dL_law__2158 : decode cL_law_ 2158 = .ok (.ireturn, 1) := by decide +kernel
theorem dL_law__2159 : decode cL_law_ 2159 = .ok (.iload 5, 2) := by decide +kernel
theorem dL_law__2161 : decode cL_law_ 2161 = .ok (.ifCond .ne 22, 3) := by decide +kernel
theorem dL_law__2164 : decode cL_law_ 2164 = .ok (.aload_n 3, 1) := by decide +kernel
theorem dL_law__2165 : decode cL_law_ 2165 = .ok (.iconst 0, 1) := by decide +kernel
theorem dL_law__2166 : decode cL_law_ 2166 = .ok (.laload, 1) := by decide +kernel
theorem dL_law__2167 : decode cL_law_ 2167 = .ok (.iload 6, 2) := by decide +kernel
theorem dL_law__2169 : decode cL_law_ 2169 = .ok (.ifCond .eq 7, 3) := by decide +kernel
theorem dL_law__2172 : decode cL_law_ 2172 = .ok (.lconst 1, 1) := by decide +kernel
theorem dL_law__2173 : decode cL_law_ 2173 = .ok (.goto 4, 3) := by decide +kernel
theorem dL_law__2176 : decode cL_law_ 2176 = .ok (.lconst 0, 1) := by decide +kernel
theorem dL_law__2177 : decode cL_law_ 2177 = .ok (.lcmp, 1) := by decide +kernel
theorem dL_law__2178 : decode cL_law_ 2178 = .ok (.ifCond .eq 5, 3) := by decide +kernel
theorem dL_law__2181 : decode cL_law_ 2181 = .ok (.iconst 0, 1) := by decide +kernel
theorem dL_law__2182 : decode cL_law_ 2182 = .ok (.ireturn, 1) := by decide +kernel
theorem dL_law__2183 : decode cL_law_ 2183 = .ok (.goto 482, 3) := by decide +kernel
theorem dL_law__2186 : decode cL_law_ 2186 = .ok (.aload_n 1, 1) := by decide +kernel
theorem dL_law__2187 : decode cL_law_ 2187 = .ok (.aload_n 0, 1) := by decide +kernel
theorem dL_law__2188 : decode cL_law_ 2188 = .ok (.iload 4, 2) := by decide +kernel
theorem dL_law__2190 : decode cL_law_ 2190 = .ok (.iconst 1, 1) := by decide +kernel
theorem dL_law__2191 : decode cL_law_ 2191 = .ok (.iadd, 1) := by decide +kernel
theorem dL_law__2192 : decode cL_law_ 2192 = .ok (.iaload, 1) := by decide +kernel
theorem dL_law__2193 : decode cL_law_ 2193 = .ok (.aload_n 3, 1) := by decide +kernel
theorem dL_law__2194 : decode cL_law_ 2194 = .ok (.invokestatic 233, 3) := by decide +kernel
theorem dL_law__2197 : decode cL_law_ 2197 = .ok (.istore 5, 2) := by decide +kernel
theorem dL_law__2199 : decode cL_law_ 2199 = .ok (.aload_n 2, 1) := by decide +kernel
theorem dL_law__2200 : decode cL_law_ 2200 = .ok (.aload_n 0, 1) := by decide +kernel
theorem dL_law__2201 : decode cL_law_ 2201 = .ok (.iload 4, 2) := by decide +kernel
theorem dL_law__2203 : decode cL_law_ 2203 = .ok (.iconst 1, 1) := by decide +kernel
theorem dL_law__2204 : decode cL_law_ 2204 = .ok (.iadd, 1) := by decide +kernel
theorem dL_law__2205 : decode cL_law_ 2205 = .ok (.iaload, 1) := by decide +kernel
theorem dL_law__2206 : decode cL_law_ 2206 = .ok (.invokevirtual 235, 3) := by decide +kernel
theorem dL_law__2209 : decode cL_law_ 2209 = .ok (.istore 6, 2) := by decide +kernel
theorem dL_law__2211 : decode cL_law_ 2211 = .ok (.aload_n 2, 1) := by decide +kernel
theorem dL_law__2212 : decode cL_law_ 2212 = .ok (.invokevirtual 134, 3) := by decide +kernel
theorem dL_law__2215 : decode cL_law_ 2215 = .ok (.iload 5, 2) := by decide +kernel
theorem dL_law__2217 : decode cL_law_ 2217 = .ok (.if_icmp .eq 5, 3) := by decide +kernel
theorem dL_law__2220 : decode cL_law_ 2220 = .ok (.iconst 0, 1) := by decide +kernel
theorem dL_law__2221 : decode cL_law_ 2221 = .ok (.ireturn, 1) := by decide +kernel
theorem dL_law__2222 : decode cL_law_ 2222 = .ok (.iload 5, 2) := by decide +kernel
theorem dL_law__2224 : decode cL_law_ 2224 = .ok (.ifCond .ne 15, 3) := by decide +kernel
theorem dL_law__2227 : decode cL_law_ 2227 = .ok (.aload_n 3, 1) := by decide +kernel
theorem dL_law__2228 : decode cL_law_ 2228 = .ok (.iconst 0, 1) := by decide +kernel
theorem dL_law__2229 : decode cL_law_ 2229 = .ok (.laload, 1) := by decide +kernel
theorem dL_law__2230 : decode cL_law_ 2230 = .ok (.iload 6, 2) := by decide +kernel
theorem dL_law__2232 : decode cL_law_ 2232 = .ok (.i2l, 1) := by decide +kernel
theorem dL_law__2233 : decode cL_law_ 2233 = .ok (.lcmp, 1) := by decide +kernel
theorem dL_law__2234 : decode cL_law_ 2234 = .ok (.ifCond .eq 5, 3) := by decide +kernel
theorem dL_law__2237 : decode cL_law_ 2237 = .ok (.iconst 0, 1) := by decide +kernel
theorem dL_law__2238 : decode cL_law_ 2238 = .ok (.ireturn, 1) := by decide +kernel
theorem dL_law__2239 : decode cL_law_ 2239 = .ok (.goto 426, 3) := by decide +kernel
theorem dL_law__2242 : decode cL_law_ 2242 = .ok (.aload_n 1, 1) := by decide +kernel
theorem dL_law__2243 : decode cL_law_ 2243 = .ok (.aload_n 0, 1) := by decide +kernel
theorem dL_law__2244 : decode cL_law_ 2244 = .ok (.iload 4, 2) := by decide +kernel
theorem dL_law__2246 : decode cL_law_ 2246 = .ok (.iconst 1, 1) := by decide +kernel
theorem dL_law__2247 : decode cL_law_ 2247 = .ok (.iadd, 1) := by decide +kernel
theorem dL_law__2248 : decode cL_law_ 2248 = .ok (.iaload, 1) := by decide +kernel
theorem dL_law__2249 : decode cL_law_ 2249 = .ok (.aload_n 0, 1) := by decide +kernel
theorem dL_law__2250 : decode cL_law_ 2250 = .ok (.iload 4, 2) := by decide +kernel
theorem dL_law__2252 : decode cL_law_ 2252 = .ok (.iconst 2, 1) := by decide +kernel
theorem dL_law__2253 : decode cL_law_ 2253 = .ok (.iadd, 1) := by decide +kernel
theorem dL_law__2254 : decode cL_law_ 2254 = .ok (.iaload, 1) := by decide +kernel
theorem dL_law__2255 : decode cL_law_ 2255 = .ok (.aload_n 3, 1) := by decide +kernel
theorem dL_law__2256 : decode cL_law_ 2256 = .ok (.invokestatic 236, 3) := by decide +kernel
theorem dL_law__2259 : decode cL_law_ 2259 = .ok (.istore 5, 2) := by decide +kernel
theorem dL_law__2261 : decode cL_law_ 2261 = .ok (.aload_n 2, 1) := by decide +kernel
theorem dL_law__2262 : decode cL_law_ 2262 = .ok (.aload_n 0, 1) := by decide +kernel
theorem dL_law__2263 : decode cL_law_ 2263 = .ok (.iload 4, 2) := by decide +kernel
theorem dL_law__2265 : decode cL_law_ 2265 = .ok (.iconst 1, 1) := by decide +kernel
theorem dL_law__2266 : decode cL_law_ 2266 = .ok (.iadd, 1) := by decide +kernel
theorem dL_law__2267 : decode cL_law_ 2267 = .ok (.iaload, 1) := by decide +kernel
theorem dL_law__2268 : decode cL_law_ 2268 = .ok (.aload_n 0, 1) := by decide +kernel
theorem dL_law__2269 : decode cL_law_ 2269 = .ok (.iload 4, 2) := by decide +kernel
theorem dL_law__2271 : decode cL_law_ 2271 = .ok (.iconst 2, 1) := by decide +kernel
theorem dL_law__2272 : decode cL_law_ 2272 = .ok (.iadd, 1) := by decide +kernel
theorem dL_law__2273 : decode cL_law_ 2273 = .ok (.iaload, 1) := by decide +kernel
theorem dL_law__2274 : decode cL_law_ 2274 = .ok (.invokevirtual 238, 3) := by decide +kernel
theorem dL_law__2277 : decode cL_law_ 2277 = .ok (.istore 6, 2) := by decide +kernel
theorem dL_law__2279 : decode cL_law_ 2279 = .ok (.aload_n 2, 1) := by decide +kernel
theorem dL_law__2280 : decode cL_law_ 2280 = .ok (.invokevirtual 134, 3) := by decide +kernel
theorem dL_law__2283 : decode cL_law_ 2283 = .ok (.iload 5, 2) := by decide +kernel
theorem dL_law__2285 : decode cL_law_ 2285 = .ok (.if_icmp .eq 5, 3) := by decide +kernel
theorem dL_law__2288 : decode cL_law_ 2288 = .ok (.iconst 0, 1) := by decide +kernel
theorem dL_law__2289 : decode cL_law_ 2289 = .ok (.ireturn, 1) := by decide +kernel
theorem dL_law__2290 : decode cL_law_ 2290 = .ok (.iload 5, 2) := by decide +kernel
theorem dL_law__2292 : decode cL_law_ 2292 = .ok (.ifCond .ne 15, 3) := by decide +kernel
theorem dL_law__2295 : decode cL_law_ 2295 = .ok (.aload_n 3, 1) := by decide +kernel
theorem dL_law__2296 : decode cL_law_ 2296 = .ok (.iconst 0, 1) := by decide +kernel
theorem dL_law__2297 : decode cL_law_ 2297 = .ok (.laload, 1) := by decide +kernel
theorem dL_law__2298 : decode cL_law_ 2298 = .ok (.iload 6, 2) := by decide +kernel
theorem dL_law__2300 : decode cL_law_ 2300 = .ok (.i2l, 1) := by decide +kernel
theorem dL_law__2301 : decode cL_law_ 2301 = .ok (.lcmp, 1) := by decide +kernel
theorem dL_law__2302 : decode cL_law_ 2302 = .ok (.ifCond .eq 5, 3) := by decide +kernel
theorem dL_law__2305 : decode cL_law_ 2305 = .ok (.iconst 0, 1) := by decide +kernel
theorem dL_law__2306 : decode cL_law_ 2306 = .ok (.ireturn, 1) := by decide +kernel
theorem dL_law__2307 : decode cL_law_ 2307 = .ok (.goto 358, 3) := by decide +kernel
theorem dL_law__2310 : decode cL_law_ 2310 = .ok (.aload_n 1, 1) := by decide +kernel
theorem dL_law__2311 : decode cL_law_ 2311 = .ok (.aload_n 0, 1) := by decide +kernel
theorem dL_law__2312 : decode cL_law_ 2312 = .ok (.iload 4, 2) := by decide +kernel
theorem dL_law__2314 : decode cL_law_ 2314 = .ok (.iconst 1, 1) := by decide +kernel
theorem dL_law__2315 : decode cL_law_ 2315 = .ok (.iadd, 1) := by decide +kernel
theorem dL_law__2316 : decode cL_law_ 2316 = .ok (.iaload, 1) := by decide +kernel
theorem dL_law__2317 : decode cL_law_ 2317 = .ok (.aload_n 3, 1) := by decide +kernel
theorem dL_law__2318 : decode cL_law_ 2318 = .ok (.invokestatic 239, 3) := by decide +kernel
theorem dL_law__2321 : decode cL_law_ 2321 = .ok (.istore 5, 2) := by decide +kernel
theorem dL_law__2323 : decode cL_law_ 2323 = .ok (.aload_n 2, 1) := by decide +kernel
theorem dL_law__2324 : decode cL_law_ 2324 = .ok (.aload_n 0, 1) := by decide +kernel
theorem dL_law__2325 : decode cL_law_ 2325 = .ok (.iload 4, 2) := by decide +kernel
theorem dL_law__2327 : decode cL_law_ 2327 = .ok (.iconst 1, 1) := by decide +kernel
theorem dL_law__2328 : decode cL_law_ 2328 = .ok (.iadd, 1) := by decide +kernel
theorem dL_law__2329 : decode cL_law_ 2329 = .ok (.iaload, 1) := by decide +kernel
theorem dL_law__2330 : decode cL_law_ 2330 = .ok (.invokevirtual 241, 3) := by decide +kernel
theorem dL_law__2333 : decode cL_law_ 2333 = .ok (.istore 6, 2) := by decide +kernel
theorem dL_law__2335 : decode cL_law_ 2335 = .ok (.aload_n 2, 1) := by decide +kernel
theorem dL_law__2336 : decode cL_law_ 2336 = .ok (.invokevirtual 134, 3) := by decide +kernel
theorem dL_law__2339 : decode cL_law_ 2339 = .ok (.iload 5, 2) := by decide +kernel
theorem dL_law__2341 : decode cL_law_ 2341 = .ok (.if_icmp .eq 5, 3) := by decide +kernel
theorem dL_law__2344 : decode cL_law_ 2344 = .ok (.iconst 0, 1) := by decide +kernel
theorem dL_law__2345 : decode cL_law_ 2345 = .ok (.ireturn, 1) := by decide +kernel
theorem dL_law__2346 : decode cL_law_ 2346 = .ok (.iload 5, 2) := by decide +kernel
theorem dL_law__2348 : decode cL_law_ 2348 = .ok (.ifCond .ne 15, 3) := by decide +kernel
theorem dL_law__2351 : decode cL_law_ 2351 = .ok (.aload_n 3, 1) := by decide +kernel
theorem dL_law__2352 : decode cL_law_ 2352 = .ok (.iconst 0, 1) := by decide +kernel
theorem dL_law__2353 : decode cL_law_ 2353 = .ok (.laload, 1) := by decide +kernel
theorem dL_law__2354 : decode cL_law_ 2354 = .ok (.iload 6, 2) := by decide +kernel
theorem dL_law__2356 : decode cL_law_ 2356 = .ok (.i2l, 1) := by decide +kernel
theorem dL_law__2357 : decode cL_law_ 2357 = .ok (.lcmp, 1) := by decide +kernel
theorem dL_law__2358 : decode cL_law_ 2358 = .ok (.ifCond .eq 5, 3) := by decide +kernel
theorem dL_law__2361 : decode cL_law_ 2361 = .ok (.iconst 0, 1) := by decide +kernel
theorem dL_law__2362 : decode cL_law_ 2362 = .ok (.ireturn, 1) := by decide +kernel
theorem dL_law__2363 : decode cL_law_ 2363 = .ok (.goto 302, 3) := by decide +kernel
theorem dL_law__2366 : decode cL_law_ 2366 = .ok (.aload_n 1, 1) := by decide +kernel
theorem dL_law__2367 : decode cL_law_ 2367 = .ok (.invokevirtual 242, 3) := by decide +kernel
theorem dL_law__2370 : decode cL_law_ 2370 = .ok (.aload_n 2, 1) := by decide +kernel
theorem dL_law__2371 : decode cL_law_ 2371 = .ok (.invokevirtual 245, 3) := by decide +kernel
theorem dL_law__2374 : decode cL_law_ 2374 = .ok (.if_icmp .eq 291, 3) := by decide +kernel
theorem dL_law__2377 : decode cL_law_ 2377 = .ok (.iconst 0, 1) := by decide +kernel
theorem dL_law__2378 : decode cL_law_ 2378 = .ok (.ireturn, 1) := by decide +kernel
theorem dL_law__2379 : decode cL_law_ 2379 = .ok (.aload_n 1, 1) := by decide +kernel
theorem dL_law__2380 : decode cL_law_ 2380 = .ok (.aload_n 0, 1) := by decide +kernel
theorem dL_law__2381 : decode cL_law_ 2381 = .ok (.iload 4, 2) := by decide +kernel
theorem dL_law__2383 : decode cL_law_ 2383 = .ok (.iconst 1, 1) := by decide +kernel
theorem dL_law__2384 : decode cL_law_ 2384 = .ok (.iadd, 1) := by decide +kernel
theorem dL_law__2385 : decode cL_law_ 2385 = .ok (.iaload, 1) := by decide +kernel
theorem dL_law__2386 : decode cL_law_ 2386 = .ok (.aload_n 0, 1) := by decide +kernel
theorem dL_law__2387 : decode cL_law_ 2387 = .ok (.iload 4, 2) := by decide +kernel
theorem dL_law__2389 : decode cL_law_ 2389 = .ok (.iconst 2, 1) := by decide +kernel
theorem dL_law__2390 : decode cL_law_ 2390 = .ok (.iadd, 1) := by decide +kernel
theorem dL_law__2391 : decode cL_law_ 2391 = .ok (.iaload, 1) := by decide +kernel
theorem dL_law__2392 : decode cL_law_ 2392 = .ok (.aload_n 0, 1) := by decide +kernel
theorem dL_law__2393 : decode cL_law_ 2393 = .ok (.iload 4, 2) := by decide +kernel
theorem dL_law__2395 : decode cL_law_ 2395 = .ok (.iconst 3, 1) := by decide +kernel
theorem dL_law__2396 : decode cL_law_ 2396 = .ok (.iadd, 1) := by decide +kernel
theorem dL_law__2397 : decode cL_law_ 2397 = .ok (.iaload, 1) := by decide +kernel
theorem dL_law__2398 : decode cL_law_ 2398 = .ok (.aload_n 0, 1) := by decide +kernel
theorem dL_law__2399 : decode cL_law_ 2399 = .ok (.iload 4, 2) := by decide +kernel
theorem dL_law__2401 : decode cL_law_ 2401 = .ok (.iconst 4, 1) := by decide +kernel
theorem dL_law__2402 : decode cL_law_ 2402 = .ok (.iadd, 1) := by decide +kernel
theorem dL_law__2403 : decode cL_law_ 2403 = .ok (.iaload, 1) := by decide +kernel
theorem dL_law__2404 : decode cL_law_ 2404 = .ok (.aload_n 3, 1) := by decide +kernel
theorem dL_law__2405 : decode cL_law_ 2405 = .ok (.invokestatic 246, 3) := by decide +kernel
theorem dL_law__2408 : decode cL_law_ 2408 = .ok (.istore 5, 2) := by decide +kernel
theorem dL_law__2410 : decode cL_law_ 2410 = .ok (.aload_n 2, 1) := by decide +kernel
theorem dL_law__2411 : decode cL_law_ 2411 = .ok (.aload_n 0, 1) := by decide +kernel
theorem dL_law__2412 : decode cL_law_ 2412 = .ok (.iload 4, 2) := by decide +kernel
theorem dL_law__2414 : decode cL_law_ 2414 = .ok (.iconst 1, 1) := by decide +kernel
theorem dL_law__2415 : decode cL_law_ 2415 = .ok (.iadd, 1) := by decide +kernel
theorem dL_law__2416 : decode cL_law_ 2416 = .ok (.iaload, 1) := by decide +kernel
theorem dL_law__2417 : decode cL_law_ 2417 = .ok (.aload_n 0, 1) := by decide +kernel
theorem dL_law__2418 : decode cL_law_ 2418 = .ok (.iload 4, 2) := by decide +kernel
theorem dL_law__2420 : decode cL_law_ 2420 = .ok (.iconst 2, 1) := by decide +kernel
theorem dL_law__2421 : decode cL_law_ 2421 = .ok (.iadd, 1) := by decide +kernel
theorem dL_law__2422 : decode cL_law_ 2422 = .ok (.iaload, 1) := by decide +kernel
theorem dL_law__2423 : decode cL_law_ 2423 = .ok (.aload_n 0, 1) := by decide +kernel
theorem dL_law__2424 : decode cL_law_ 2424 = .ok (.iload 4, 2) := by decide +kernel
theorem dL_law__2426 : decode cL_law_ 2426 = .ok (.iconst 3, 1) := by decide +kernel
theorem dL_law__2427 : decode cL_law_ 2427 = .ok (.iadd, 1) := by decide +kernel
theorem dL_law__2428 : decode cL_law_ 2428 = .ok (.iaload, 1) := by decide +kernel
theorem dL_law__2429 : decode cL_law_ 2429 = .ok (.aload_n 0, 1) := by decide +kernel
theorem dL_law__2430 : decode cL_law_ 2430 = .ok (.iload 4, 2) := by decide +kernel
theorem dL_law__2432 : decode cL_law_ 2432 = .ok (.iconst 4, 1) := by decide +kernel
theorem dL_law__2433 : decode cL_law_ 2433 = .ok (.iadd, 1) := by decide +kernel
theorem dL_law__2434 : decode cL_law_ 2434 = .ok (.iaload, 1) := by decide +kernel
theorem dL_law__2435 : decode cL_law_ 2435 = .ok (.invokevirtual 248, 3) := by decide +kernel
theorem dL_law__2438 : decode cL_law_ 2438 = .ok (.istore 6, 2) := by decide +kernel
theorem dL_law__2440 : decode cL_law_ 2440 = .ok (.aload_n 2, 1) := by decide +kernel
theorem dL_law__2441 : decode cL_law_ 2441 = .ok (.invokevirtual 134, 3) := by decide +kernel
theorem dL_law__2444 : decode cL_law_ 2444 = .ok (.iload 5, 2) := by decide +kernel
theorem dL_law__2446 : decode cL_law_ 2446 = .ok (.if_icmp .eq 5, 3) := by decide +kernel
theorem dL_law__2449 : decode cL_law_ 2449 = .ok (.iconst 0, 1) := by decide +kernel
theorem dL_law__2450 : decode cL_law_ 2450 = .ok (.ireturn, 1) := by decide +kernel
theorem dL_law__2451 : decode cL_law_ 2451 = .ok (.iload 5, 2) := by decide +kernel
theorem dL_law__2453 : decode cL_law_ 2453 = .ok (.ifCond .ne 15, 3) := by decide +kernel
theorem dL_law__2456 : decode cL_law_ 2456 = .ok (.aload_n 3, 1) := by decide +kernel
theorem dL_law__2457 : decode cL_law_ 2457 = .ok (.iconst 0, 1) := by decide +kernel
theorem dL_law__2458 : decode cL_law_ 2458 = .ok (.laload, 1) := by decide +kernel
theorem dL_law__2459 : decode cL_law_ 2459 = .ok (.iload 6, 2) := by decide +kernel
theorem dL_law__2461 : decode cL_law_ 2461 = .ok (.i2l, 1) := by decide +kernel
theorem dL_law__2462 : decode cL_law_ 2462 = .ok (.lcmp, 1) := by decide +kernel
theorem dL_law__2463 : decode cL_law_ 2463 = .ok (.ifCond .eq 5, 3) := by decide +kernel
theorem dL_law__2466 : decode cL_law_ 2466 = .ok (.iconst 0, 1) := by decide +kernel
theorem dL_law__2467 : decode cL_law_ 2467 = .ok (.ireturn, 1) := by decide +kernel
theorem dL_law__2468 : decode cL_law_ 2468 = .ok (.goto 197, 3) := by decide +kernel
theorem dL_law__2471 : decode cL_law_ 2471 = .ok (.aload_n 1, 1) := by decide +kernel
theorem dL_law__2472 : decode cL_law_ 2472 = .ok (.aload_n 0, 1) := by decide +kernel
theorem dL_law__2473 : decode cL_law_ 2473 = .ok (.iload 4, 2) := by decide +kernel
theorem dL_law__2475 : decode cL_law_ 2475 = .ok (.iconst 1, 1) := by decide +kernel
theorem dL_law__2476 : decode cL_law_ 2476 = .ok (.iadd, 1) := by decide +kernel
theorem dL_law__2477 : decode cL_law_ 2477 = .ok (.iaload, 1) := by decide +kernel
theorem dL_law__2478 : decode cL_law_ 2478 = .ok (.aload_n 0, 1) := by decide +kernel
theorem dL_law__2479 : decode cL_law_ 2479 = .ok (.iload 4, 2) := by decide +kernel
theorem dL_law__2481 : decode cL_law_ 2481 = .ok (.iconst 2, 1) := by decide +kernel
theorem dL_law__2482 : decode cL_law_ 2482 = .ok (.iadd, 1) := by decide +kernel
theorem dL_law__2483 : decode cL_law_ 2483 = .ok (.iaload, 1) := by decide +kernel
theorem dL_law__2484 : decode cL_law_ 2484 = .ok (.aload_n 0, 1) := by decide +kernel
theorem dL_law__2485 : decode cL_law_ 2485 = .ok (.iload 4, 2) := by decide +kernel
theorem dL_law__2487 : decode cL_law_ 2487 = .ok (.iconst 3, 1) := by decide +kernel
theorem dL_law__2488 : decode cL_law_ 2488 = .ok (.iadd, 1) := by decide +kernel
theorem dL_law__2489 : decode cL_law_ 2489 = .ok (.iaload, 1) := by decide +kernel
theorem dL_law__2490 : decode cL_law_ 2490 = .ok (.aload_n 0, 1) := by decide +kernel
theorem dL_law__2491 : decode cL_law_ 2491 = .ok (.iload 4, 2) := by decide +kernel
theorem dL_law__2493 : decode cL_law_ 2493 = .ok (.iconst 4, 1) := by decide +kernel
theorem dL_law__2494 : decode cL_law_ 2494 = .ok (.iadd, 1) := by decide +kernel
theorem dL_law__2495 : decode cL_law_ 2495 = .ok (.iaload, 1) := by decide +kernel
theorem dL_law__2496 : decode cL_law_ 2496 = .ok (.aload_n 0, 1) := by decide +kernel
theorem dL_law__2497 : decode cL_law_ 2497 = .ok (.iload 4, 2) := by decide +kernel
theorem dL_law__2499 : decode cL_law_ 2499 = .ok (.iconst 5, 1) := by decide +kernel
theorem dL_law__2500 : decode cL_law_ 2500 = .ok (.iadd, 1) := by decide +kernel
theorem dL_law__2501 : decode cL_law_ 2501 = .ok (.iaload, 1) := by decide +kernel
theorem dL_law__2502 : decode cL_law_ 2502 = .ok (.aload_n 0, 1) := by decide +kernel
theorem dL_law__2503 : decode cL_law_ 2503 = .ok (.iload 4, 2) := by decide +kernel
theorem dL_law__2505 : decode cL_law_ 2505 = .ok (.bipush 6, 2) := by decide +kernel
theorem dL_law__2507 : decode cL_law_ 2507 = .ok (.iadd, 1) := by decide +kernel
theorem dL_law__2508 : decode cL_law_ 2508 = .ok (.iaload, 1) := by decide +kernel
theorem dL_law__2509 : decode cL_law_ 2509 = .ok (.aload_n 3, 1) := by decide +kernel
theorem dL_law__2510 : decode cL_law_ 2510 = .ok (.invokestatic 249, 3) := by decide +kernel
theorem dL_law__2513 : decode cL_law_ 2513 = .ok (.istore 5, 2) := by decide +kernel
theorem dL_law__2515 : decode cL_law_ 2515 = .ok (.aload_n 2, 1) := by decide +kernel
theorem dL_law__2516 : decode cL_law_ 2516 = .ok (.aload_n 0, 1) := by decide +kernel
theorem dL_law__2517 : decode cL_law_ 2517 = .ok (.iload 4, 2) := by decide +kernel
theorem dL_law__2519 : decode cL_law_ 2519 = .ok (.iconst 1, 1) := by decide +kernel
theorem dL_law__2520 : decode cL_law_ 2520 = .ok (.iadd, 1) := by decide +kernel
theorem dL_law__2521 : decode cL_law_ 2521 = .ok (.iaload, 1) := by decide +kernel
theorem dL_law__2522 : decode cL_law_ 2522 = .ok (.aload_n 0, 1) := by decide +kernel
theorem dL_law__2523 : decode cL_law_ 2523 = .ok (.iload 4, 2) := by decide +kernel
theorem dL_law__2525 : decode cL_law_ 2525 = .ok (.iconst 2, 1) := by decide +kernel
theorem dL_law__2526 : decode cL_law_ 2526 = .ok (.iadd, 1) := by decide +kernel
theorem dL_law__2527 : decode cL_law_ 2527 = .ok (.iaload, 1) := by decide +kernel
theorem dL_law__2528 : decode cL_law_ 2528 = .ok (.aload_n 0, 1) := by decide +kernel
theorem dL_law__2529 : decode cL_law_ 2529 = .ok (.iload 4, 2) := by decide +kernel
theorem dL_law__2531 : decode cL_law_ 2531 = .ok (.iconst 3, 1) := by decide +kernel
theorem dL_law__2532 : decode cL_law_ 2532 = .ok (.iadd, 1) := by decide +kernel
theorem dL_law__2533 : decode cL_law_ 2533 = .ok (.iaload, 1) := by decide +kernel
theorem dL_law__2534 : decode cL_law_ 2534 = .ok (.aload_n 0, 1) := by decide +kernel
theorem dL_law__2535 : decode cL_law_ 2535 = .ok (.iload 4, 2) := by decide +kernel
theorem dL_law__2537 : decode cL_law_ 2537 = .ok (.iconst 4, 1) := by decide +kernel
theorem dL_law__2538 : decode cL_law_ 2538 = .ok (.iadd, 1) := by decide +kernel
theorem dL_law__2539 : decode cL_law_ 2539 = .ok (.iaload, 1) := by decide +kernel
theorem dL_law__2540 : decode cL_law_ 2540 = .ok (.aload_n 0, 1) := by decide +kernel
theorem dL_law__2541 : decode cL_law_ 2541 = .ok (.iload 4, 2) := by decide +kernel
theorem dL_law__2543 : decode cL_law_ 2543 = .ok (.iconst 5, 1) := by decide +kernel
theorem dL_law__2544 : decode cL_law_ 2544 = .ok (.iadd, 1) := by decide +kernel
theorem dL_law__2545 : decode cL_law_ 2545 = .ok (.iaload, 1) := by decide +kernel
theorem dL_law__2546 : decode cL_law_ 2546 = .ok (.aload_n 0, 1) := by decide +kernel
theorem dL_law__2547 : decode cL_law_ 2547 = .ok (.iload 4, 2) := by decide +kernel
theorem dL_law__2549 : decode cL_law_ 2549 = .ok (.bipush 6, 2) := by decide +kernel
theorem dL_law__2551 : decode cL_law_ 2551 = .ok (.iadd, 1) := by decide +kernel
theorem dL_law__2552 : decode cL_law_ 2552 = .ok (.iaload, 1) := by decide +kernel
theorem dL_law__2553 : decode cL_law_ 2553 = .ok (.invokevirtual 252, 3) := by decide +kernel
theorem dL_law__2556 : decode cL_law_ 2556 = .ok (.istore 6, 2) := by decide +kernel
theorem dL_law__2558 : decode cL_law_ 2558 = .ok (.aload_n 2, 1) := by decide +kernel
theorem dL_law__2559 : decode cL_law_ 2559 = .ok (.invokevirtual 134, 3) := by decide +kernel
theorem dL_law__2562 : decode cL_law_ 2562 = .ok (.iload 5, 2) := by decide +kernel
theorem dL_law__2564 : decode cL_law_ 2564 = .ok (.if_icmp .eq 5, 3) := by decide +kernel
theorem dL_law__2567 : decode cL_law_ 2567 = .ok (.iconst 0, 1) := by decide +kernel
theorem dL_law__2568 : decode cL_law_ 2568 = .ok (.ireturn, 1) := by decide +kernel
theorem dL_law__2569 : decode cL_law_ 2569 = .ok (.iload 5, 2) := by decide +kernel
theorem dL_law__2571 : decode cL_law_ 2571 = .ok (.ifCond .ne 15, 3) := by decide +kernel
theorem dL_law__2574 : decode cL_law_ 2574 = .ok (.aload_n 3, 1) := by decide +kernel
theorem dL_law__2575 : decode cL_law_ 2575 = .ok (.iconst 0, 1) := by decide +kernel
theorem dL_law__2576 : decode cL_law_ 2576 = .ok (.laload, 1) := by decide +kernel
theorem dL_law__2577 : decode cL_law_ 2577 = .ok (.iload 6, 2) := by decide +kernel
theorem dL_law__2579 : decode cL_law_ 2579 = .ok (.i2l, 1) := by decide +kernel
theorem dL_law__2580 : decode cL_law_ 2580 = .ok (.lcmp, 1) := by decide +kernel
theorem dL_law__2581 : decode cL_law_ 2581 = .ok (.ifCond .eq 5, 3) := by decide +kernel
theorem dL_law__2584 : decode cL_law_ 2584 = .ok (.iconst 0, 1) := by decide +kernel
theorem dL_law__2585 : decode cL_law_ 2585 = .ok (.ireturn, 1) := by decide +kernel
theorem dL_law__2586 : decode cL_law_ 2586 = .ok (.goto 79, 3) := by decide +kernel
theorem dL_law__2589 : decode cL_law_ 2589 = .ok (.aload_n 1, 1) := by decide +kernel
theorem dL_law__2590 : decode cL_law_ 2590 = .ok (.invokevirtual 253, 3) := by decide +kernel
theorem dL_law__2593 : decode cL_law_ 2593 = .ok (.aload_n 2, 1) := by decide +kernel
theorem dL_law__2594 : decode cL_law_ 2594 = .ok (.invokevirtual 256, 3) := by decide +kernel
theorem dL_law__2597 : decode cL_law_ 2597 = .ok (.if_icmp .eq 68, 3) := by decide +kernel
theorem dL_law__2600 : decode cL_law_ 2600 = .ok (.iconst 0, 1) := by decide +kernel
theorem dL_law__2601 : decode cL_law_ 2601 = .ok (.ireturn, 1) := by decide +kernel
theorem dL_law__2602 : decode cL_law_ 2602 = .ok (.aload_n 1, 1) := by decide +kernel
theorem dL_law__2603 : decode cL_law_ 2603 = .ok (.invokevirtual 257, 3) := by decide +kernel
theorem dL_law__2606 : decode cL_law_ 2606 = .ok (.aload_n 2, 1) := by decide +kernel
theorem dL_law__2607 : decode cL_law_ 2607 = .ok (.invokevirtual 260, 3) := by decide +kernel
theorem dL_law__2610 : decode cL_law_ 2610 = .ok (.if_icmp .eq 55, 3) := by decide +kernel
theorem dL_law__2613 : decode cL_law_ 2613 = .ok (.iconst 0, 1) := by decide +kernel
theorem dL_law__2614 : decode cL_law_ 2614 = .ok (.ireturn, 1) := by decide +kernel
theorem dL_law__2615 : decode cL_law_ 2615 = .ok (.aload_n 1, 1) := by decide +kernel
theorem dL_law__2616 : decode cL_law_ 2616 = .ok (.aload_n 0, 1) := by decide +kernel
theorem dL_law__2617 : decode cL_law_ 2617 = .ok (.iload 4, 2) := by decide +kernel
theorem dL_law__2619 : decode cL_law_ 2619 = .ok (.iconst 1, 1) := by decide +kernel
theorem dL_law__2620 : decode cL_law_ 2620 = .ok (.iadd, 1) := by decide +kernel
theorem dL_law__2621 : decode cL_law_ 2621 = .ok (.iaload, 1) := by decide +kernel
theorem dL_law__2622 : decode cL_law_ 2622 = .ok (.invokevirtual 261, 3) := by decide +kernel
theorem dL_law__2625 : decode cL_law_ 2625 = .ok (.aload_n 2, 1) := by decide +kernel
theorem dL_law__2626 : decode cL_law_ 2626 = .ok (.aload_n 0, 1) := by decide +kernel
theorem dL_law__2627 : decode cL_law_ 2627 = .ok (.iload 4, 2) := by decide +kernel
theorem dL_law__2629 : decode cL_law_ 2629 = .ok (.iconst 1, 1) := by decide +kernel
theorem dL_law__2630 : decode cL_law_ 2630 = .ok (.iadd, 1) := by decide +kernel
theorem dL_law__2631 : decode cL_law_ 2631 = .ok (.iaload, 1) := by decide +kernel
theorem dL_law__2632 : decode cL_law_ 2632 = .ok (.invokevirtual 264, 3) := by decide +kernel
theorem dL_law__2635 : decode cL_law_ 2635 = .ok (.if_icmp .eq 30, 3) := by decide +kernel
theorem dL_law__2638 : decode cL_law_ 2638 = .ok (.iconst 0, 1) := by decide +kernel
theorem dL_law__2639 : decode cL_law_ 2639 = .ok (.ireturn, 1) := by decide +kernel
theorem dL_law__2640 : decode cL_law_ 2640 = .ok (.aload_n 1, 1) := by decide +kernel
theorem dL_law__2641 : decode cL_law_ 2641 = .ok (.aload_n 0, 1) := by decide +kernel
theorem dL_law__2642 : decode cL_law_ 2642 = .ok (.iload 4, 2) := by decide +kernel
theorem dL_law__2644 : decode cL_law_ 2644 = .ok (.iconst 1, 1) := by decide +kernel
theorem dL_law__2645 : decode cL_law_ 2645 = .ok (.iadd, 1) := by decide +kernel
theorem dL_law__2646 : decode cL_law_ 2646 = .ok (.iaload, 1) := by decide +kernel
theorem dL_law__2647 : decode cL_law_ 2647 = .ok (.invokevirtual 265, 3) := by decide +kernel
theorem dL_law__2650 : decode cL_law_ 2650 = .ok (.aload_n 2, 1) := by decide +kernel
theorem dL_law__2651 : decode cL_law_ 2651 = .ok (.aload_n 0, 1) := by decide +kernel
theorem dL_law__2652 : decode cL_law_ 2652 = .ok (.iload 4, 2) := by decide +kernel
theorem dL_law__2654 : decode cL_law_ 2654 = .ok (.iconst 1, 1) := by decide +kernel
theorem dL_law__2655 : decode cL_law_ 2655 = .ok (.iadd, 1) := by decide +kernel
theorem dL_law__2656 : decode cL_law_ 2656 = .ok (.iaload, 1) := by decide +kernel
theorem dL_law__2657 : decode cL_law_ 2657 = .ok (.invokevirtual 268, 3) := by decide +kernel
theorem dL_law__2660 : decode cL_law_ 2660 = .ok (.if_icmp .eq 5, 3) := by decide +kernel
theorem dL_law__2663 : decode cL_law_ 2663 = .ok (.iconst 0, 1) := by decide +kernel
theorem dL_law__2664 : decode cL_law_ 2664 = .ok (.ireturn, 1) := by decide +kernel
theorem dL_law__2665 : decode cL_law_ 2665 = .ok (.iinc 4 9, 3) := by decide +kernel
theorem dL_law__2668 : decode cL_law_ 2668 = .ok (.goto (-2645), 3) := by decide +kernel
theorem dL_law__2671 : decode cL_law_ 2671 = .ok (.iconst 1, 1) := by decide +kernel
theorem dL_law__2672 : decode cL_law_ 2672 = .ok (.ireturn, 1) := by decide +kernel

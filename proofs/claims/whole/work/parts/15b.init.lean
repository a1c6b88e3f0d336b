/-! The two constructors, run as they stand: part 2. -/
def r268 : Rf := sR r267 44 (va_up (r267 44) (9 : Int32).toNatClampNeg (some 144))
def s268 : St := s267
def r269 : Rf := sR r268 155 (fun _ => none)
def s269 : St := sL (sI s268 155 (fun _ => 0)) 155 (fun _ => 0)
def r270 : Rf := mR r269 156 6
def s270 : St := mS s269 156 6
def r271 : Rf := sR r270 155 (va_up (r270 155) 1 (some 156))
def s271 : St := s270
def r272 : Rf := sR r271 163 (fun _ => none)
def s272 : St := sL (sI s271 163 (fun _ => 0)) 163 (fun _ => 0)
def r273 : Rf := sR r272 155 (va_up (r272 155) 3 (some 163))
def s273 : St := s272
def r274 : Rf := sR r273 164 (fun _ => none)
def s274 : St := sL (sI s273 164 (fun _ => 0)) 164 (fun _ => 0)
def r275 : Rf := sR r274 155 (va_up (r274 155) 4 (some 164))
def s275 : St := s274
def r276 : Rf := sR r275 165 (fun _ => none)
def s276 : St := sL (sI s275 165 (fun _ => 0)) 165 (fun _ => 0)
def r277 : Rf := sR r276 155 (va_up (r276 155) 5 (some 165))
def s277 : St := s276
def r278 : Rf := sR r277 44 (va_up (r277 44) (10 : Int32).toNatClampNeg (some 155))
def s278 : St := s277
def r279 : Rf := sR r278 166 (fun _ => none)
def s279 : St := sL (sI s278 166 (fun _ => 0)) 166 (fun _ => 0)
def r280 : Rf := mR r279 167 6
def s280 : St := mS s279 167 6
def r281 : Rf := sR r280 166 (va_up (r280 166) 1 (some 167))
def s281 : St := s280
def r282 : Rf := sR r281 174 (fun _ => none)
def s282 : St := sL (sI s281 174 (fun _ => 0)) 174 (fun _ => 0)
def r283 : Rf := sR r282 166 (va_up (r282 166) 3 (some 174))
def s283 : St := s282
def r284 : Rf := sR r283 175 (fun _ => none)
def s284 : St := sL (sI s283 175 (fun _ => 0)) 175 (fun _ => 0)
def r285 : Rf := sR r284 166 (va_up (r284 166) 4 (some 175))
def s285 : St := s284
def r286 : Rf := sR r285 176 (fun _ => none)
def s286 : St := sL (sI s285 176 (fun _ => 0)) 176 (fun _ => 0)
def r287 : Rf := sR r286 166 (va_up (r286 166) 5 (some 176))
def s287 : St := s286
def r288 : Rf := sR r287 44 (va_up (r287 44) (11 : Int32).toNatClampNeg (some 166))
def s288 : St := s287
def r289 : Rf := sR r288 177 (fun _ => none)
def s289 : St := sL (sI s288 177 (fun _ => 0)) 177 (fun _ => 0)
def r290 : Rf := mR r289 178 6
def s290 : St := mS s289 178 6
def r291 : Rf := sR r290 177 (va_up (r290 177) 1 (some 178))
def s291 : St := s290
def r292 : Rf := sR r291 185 (fun _ => none)
def s292 : St := sL (sI s291 185 (fun _ => 0)) 185 (fun _ => 0)
def r293 : Rf := sR r292 177 (va_up (r292 177) 3 (some 185))
def s293 : St := s292
def r294 : Rf := sR r293 186 (fun _ => none)
def s294 : St := sL (sI s293 186 (fun _ => 0)) 186 (fun _ => 0)
def r295 : Rf := sR r294 177 (va_up (r294 177) 4 (some 186))
def s295 : St := s294
def r296 : Rf := sR r295 187 (fun _ => none)
def s296 : St := sL (sI s295 187 (fun _ => 0)) 187 (fun _ => 0)
def r297 : Rf := sR r296 177 (va_up (r296 177) 5 (some 187))
def s297 : St := s296
def r298 : Rf := sR r297 44 (va_up (r297 44) (12 : Int32).toNatClampNeg (some 177))
def s298 : St := s297
def r299 : Rf := sR r298 188 (fun _ => none)
def s299 : St := sL (sI s298 188 (fun _ => 0)) 188 (fun _ => 0)
def r300 : Rf := mR r299 189 6
def s300 : St := mS s299 189 6
def r301 : Rf := sR r300 188 (va_up (r300 188) 1 (some 189))
def s301 : St := s300
def r302 : Rf := sR r301 196 (fun _ => none)
def s302 : St := sL (sI s301 196 (fun _ => 0)) 196 (fun _ => 0)
def r303 : Rf := sR r302 188 (va_up (r302 188) 3 (some 196))
def s303 : St := s302
def r304 : Rf := sR r303 197 (fun _ => none)
def s304 : St := sL (sI s303 197 (fun _ => 0)) 197 (fun _ => 0)
def r305 : Rf := sR r304 188 (va_up (r304 188) 4 (some 197))
def s305 : St := s304
def r306 : Rf := sR r305 198 (fun _ => none)
def s306 : St := sL (sI s305 198 (fun _ => 0)) 198 (fun _ => 0)
def r307 : Rf := sR r306 188 (va_up (r306 188) 5 (some 198))
def s307 : St := s306
def r308 : Rf := sR r307 44 (va_up (r307 44) (13 : Int32).toNatClampNeg (some 188))
def s308 : St := s307
def r309 : Rf := sR r308 199 (fun _ => none)
def s309 : St := sL (sI s308 199 (fun _ => 0)) 199 (fun _ => 0)
def r310 : Rf := mR r309 200 6
def s310 : St := mS s309 200 6
def r311 : Rf := sR r310 199 (va_up (r310 199) 1 (some 200))
def s311 : St := s310
def r312 : Rf := sR r311 207 (fun _ => none)
def s312 : St := sL (sI s311 207 (fun _ => 0)) 207 (fun _ => 0)
def r313 : Rf := sR r312 199 (va_up (r312 199) 3 (some 207))
def s313 : St := s312
def r314 : Rf := sR r313 208 (fun _ => none)
def s314 : St := sL (sI s313 208 (fun _ => 0)) 208 (fun _ => 0)
def r315 : Rf := sR r314 199 (va_up (r314 199) 4 (some 208))
def s315 : St := s314
def r316 : Rf := sR r315 209 (fun _ => none)
def s316 : St := sL (sI s315 209 (fun _ => 0)) 209 (fun _ => 0)
def r317 : Rf := sR r316 199 (va_up (r316 199) 5 (some 209))
def s317 : St := s316
def r318 : Rf := sR r317 44 (va_up (r317 44) (14 : Int32).toNatClampNeg (some 199))
def s318 : St := s317
def r319 : Rf := sR r318 210 (fun _ => none)
def s319 : St := sL (sI s318 210 (fun _ => 0)) 210 (fun _ => 0)
def r320 : Rf := mR r319 211 6
def s320 : St := mS s319 211 6
def r321 : Rf := sR r320 210 (va_up (r320 210) 1 (some 211))
def s321 : St := s320
def r322 : Rf := sR r321 218 (fun _ => none)
def s322 : St := sL (sI s321 218 (fun _ => 0)) 218 (fun _ => 0)
def r323 : Rf := sR r322 210 (va_up (r322 210) 3 (some 218))
def s323 : St := s322
def r324 : Rf := sR r323 219 (fun _ => none)
def s324 : St := sL (sI s323 219 (fun _ => 0)) 219 (fun _ => 0)
def r325 : Rf := sR r324 210 (va_up (r324 210) 4 (some 219))
def s325 : St := s324
def r326 : Rf := sR r325 220 (fun _ => none)
def s326 : St := sL (sI s325 220 (fun _ => 0)) 220 (fun _ => 0)
def r327 : Rf := sR r326 210 (va_up (r326 210) 5 (some 220))
def s327 : St := s326
def r328 : Rf := sR r327 44 (va_up (r327 44) (15 : Int32).toNatClampNeg (some 210))
def s328 : St := s327
def r329 : Rf := sR r328 221 (fun _ => none)
def s329 : St := sL (sI s328 221 (fun _ => 0)) 221 (fun _ => 0)
def r330 : Rf := mR r329 222 6
def s330 : St := mS s329 222 6
def r331 : Rf := sR r330 221 (va_up (r330 221) 1 (some 222))
def s331 : St := s330
def r332 : Rf := sR r331 229 (fun _ => none)
def s332 : St := sL (sI s331 229 (fun _ => 0)) 229 (fun _ => 0)
def r333 : Rf := sR r332 221 (va_up (r332 221) 3 (some 229))
def s333 : St := s332
def r334 : Rf := sR r333 230 (fun _ => none)
def s334 : St := sL (sI s333 230 (fun _ => 0)) 230 (fun _ => 0)
def r335 : Rf := sR r334 221 (va_up (r334 221) 4 (some 230))
def s335 : St := s334
def r336 : Rf := sR r335 231 (fun _ => none)
def s336 : St := sL (sI s335 231 (fun _ => 0)) 231 (fun _ => 0)
def r337 : Rf := sR r336 221 (va_up (r336 221) 5 (some 231))
def s337 : St := s336
def r338 : Rf := sR r337 44 (va_up (r337 44) (16 : Int32).toNatClampNeg (some 221))
def s338 : St := s337
def r339 : Rf := sR r338 232 (fun _ => none)
def s339 : St := sL (sI s338 232 (fun _ => 0)) 232 (fun _ => 0)
def r340 : Rf := mR r339 233 6
def s340 : St := mS s339 233 6
def r341 : Rf := sR r340 232 (va_up (r340 232) 1 (some 233))
def s341 : St := s340
def r342 : Rf := sR r341 240 (fun _ => none)
def s342 : St := sL (sI s341 240 (fun _ => 0)) 240 (fun _ => 0)
def r343 : Rf := sR r342 232 (va_up (r342 232) 3 (some 240))
def s343 : St := s342
def r344 : Rf := sR r343 241 (fun _ => none)
def s344 : St := sL (sI s343 241 (fun _ => 0)) 241 (fun _ => 0)
def r345 : Rf := sR r344 232 (va_up (r344 232) 4 (some 241))
def s345 : St := s344
def r346 : Rf := sR r345 242 (fun _ => none)
def s346 : St := sL (sI s345 242 (fun _ => 0)) 242 (fun _ => 0)
def r347 : Rf := sR r346 232 (va_up (r346 232) 5 (some 242))
def s347 : St := s346
def r348 : Rf := sR r347 44 (va_up (r347 44) (17 : Int32).toNatClampNeg (some 232))
def s348 : St := s347
def r349 : Rf := sR r348 243 (fun _ => none)
def s349 : St := sL (sI s348 243 (fun _ => 0)) 243 (fun _ => 0)
def r350 : Rf := mR r349 244 6
def s350 : St := mS s349 244 6
def r351 : Rf := sR r350 243 (va_up (r350 243) 1 (some 244))
def s351 : St := s350
def r352 : Rf := sR r351 251 (fun _ => none)
def s352 : St := sL (sI s351 251 (fun _ => 0)) 251 (fun _ => 0)
def r353 : Rf := sR r352 243 (va_up (r352 243) 3 (some 251))
def s353 : St := s352
def r354 : Rf := sR r353 252 (fun _ => none)
def s354 : St := sL (sI s353 252 (fun _ => 0)) 252 (fun _ => 0)
def r355 : Rf := sR r354 243 (va_up (r354 243) 4 (some 252))
def s355 : St := s354
def r356 : Rf := sR r355 253 (fun _ => none)
def s356 : St := sL (sI s355 253 (fun _ => 0)) 253 (fun _ => 0)
def r357 : Rf := sR r356 243 (va_up (r356 243) 5 (some 253))
def s357 : St := s356
def r358 : Rf := sR r357 44 (va_up (r357 44) (18 : Int32).toNatClampNeg (some 243))
def s358 : St := s357
def r359 : Rf := sR r358 254 (fun _ => none)
def s359 : St := sL (sI s358 254 (fun _ => 0)) 254 (fun _ => 0)
def r360 : Rf := mR r359 255 6
def s360 : St := mS s359 255 6
def r361 : Rf := sR r360 254 (va_up (r360 254) 1 (some 255))
def s361 : St := s360
def r362 : Rf := sR r361 262 (fun _ => none)
def s362 : St := sL (sI s361 262 (fun _ => 0)) 262 (fun _ => 0)
def r363 : Rf := sR r362 254 (va_up (r362 254) 3 (some 262))
def s363 : St := s362
def r364 : Rf := sR r363 263 (fun _ => none)
def s364 : St := sL (sI s363 263 (fun _ => 0)) 263 (fun _ => 0)
def r365 : Rf := sR r364 254 (va_up (r364 254) 4 (some 263))
def s365 : St := s364
def r366 : Rf := sR r365 264 (fun _ => none)
def s366 : St := sL (sI s365 264 (fun _ => 0)) 264 (fun _ => 0)
def r367 : Rf := sR r366 254 (va_up (r366 254) 5 (some 264))
def s367 : St := s366
def r368 : Rf := sR r367 44 (va_up (r367 44) (19 : Int32).toNatClampNeg (some 254))
def s368 : St := s367
def r369 : Rf := sR r368 0 (va_up (r368 0) 5 (some 43))
def s369 : St := s368
def r370 : Rf := sR r369 265 (fun _ => none)
def s370 : St := sL (sI s369 265 (fun _ => 0)) 265 (fun _ => 0)
def r371 : Rf := sR r370 266 (fun _ => none)
def s371 : St := sL (sI s370 266 (fun _ => 0)) 266 (fun _ => 0)
def r372 : Rf := sR r371 265 (va_up (r371 265) 0 (some 266))
def s372 : St := s371
def r373 : Rf := sR r372 265 (va_up (r372 265) 1 (some 2))
def s373 : St := s372
def r374 : Rf := sR r373 0 (va_up (r373 0) 6 (some 265))
def s374 : St := s373
def r375 : Rf := sR r374 267 (fun _ => none)
def s375 : St := sL (sI s374 267 (fun _ => 0)) 267 (fun _ => 0)
def r376 : Rf := sR r375 268 (fun _ => none)
def s376 : St := sL (sI s375 268 (fun _ => 0)) 268 (fun _ => 0)
def r377 : Rf := mR r376 269 6
def s377 : St := mS s376 269 6
def r378 : Rf := sR r377 268 (va_up (r377 268) 1 (some 269))
def s378 : St := s377
def r379 : Rf := sR r378 276 (fun _ => none)
def s379 : St := sL (sI s378 276 (fun _ => 0)) 276 (fun _ => 0)
def r380 : Rf := sR r379 268 (va_up (r379 268) 3 (some 276))
def s380 : St := s379
def r381 : Rf := sR r380 277 (fun _ => none)
def s381 : St := sL (sI s380 277 (fun _ => 0)) 277 (fun _ => 0)
def r382 : Rf := sR r381 268 (va_up (r381 268) 4 (some 277))
def s382 : St := s381
def r383 : Rf := sR r382 278 (fun _ => none)
def s383 : St := sL (sI s382 278 (fun _ => 0)) 278 (fun _ => 0)
def r384 : Rf := sR r383 268 (va_up (r383 268) 5 (some 278))
def s384 : St := s383
def r385 : Rf := sR r384 267 (va_up (r384 267) 2 (some 268))
def s385 : St := s384
def r386 : Rf := sR r385 279 (fun _ => none)
def s386 : St := sL (sI s385 279 (fun _ => 0)) 279 (fun _ => 0)
def r387 : Rf := sR r386 267 (va_up (r386 267) 3 (some 279))
def s387 : St := s386
def r388 : Rf := mR r387 280 5
def s388 : St := mS s387 280 5
def r389 : Rf := sR r388 267 (va_up (r388 267) 4 (some 280))
def s389 : St := s388
def r390 : Rf := sR r389 286 (fun _ => none)
def s390 : St := sL (sI s389 286 (fun _ => 0)) 286 (fun _ => 0)
def r391 : Rf := sR r390 267 (va_up (r390 267) 5 (some 286))
def s391 : St := s390
def r392 : Rf := sR r391 287 (fun _ => none)
def s392 : St := sL (sI s391 287 (fun _ => 0)) 287 (fun _ => 0)
def r393 : Rf := sR r392 267 (va_up (r392 267) 6 (some 287))
def s393 : St := s392
def r394 : Rf := mR r393 288 6
def s394 : St := mS s393 288 6
def r395 : Rf := sR r394 267 (va_up (r394 267) 7 (some 288))
def s395 : St := s394
def r396 : Rf := mR r395 295 7
def s396 : St := mS s395 295 7
def r397 : Rf := sR r396 267 (va_up (r396 267) 8 (some 295))
def s397 : St := s396
def r398 : Rf := sR r397 303 (fun _ => none)
def s398 : St := sL (sI s397 303 (fun _ => 0)) 303 (fun _ => 0)
def r399 : Rf := sR r398 267 (va_up (r398 267) 9 (some 303))
def s399 : St := s398
def r400 : Rf := mR r399 304 10
def s400 : St := mS s399 304 10
def r401 : Rf := sR r400 267 (va_up (r400 267) 10 (some 304))
def s401 : St := s400
def r402 : Rf := sR r401 315 (fun _ => none)
def s402 : St := sL (sI s401 315 (fun _ => 0)) 315 (fun _ => 0)
def r403 : Rf := sR r402 267 (va_up (r402 267) 11 (some 315))
def s403 : St := s402
def r404 : Rf := sR r403 267 (va_up (r403 267) 0 (some 265))
def s404 : St := s403
def r405 : Rf := sR r404 267 (va_up (r404 267) 1 (some 32))
def s405 : St := s404
def r406 : Rf := sR r405 0 (va_up (r405 0) 7 (some 267))
def s406 : St := s405
def r407 : Rf := sR r406 316 (fun _ => none)
def s407 : St := sL (sI s406 316 (fun _ => 0)) 316 (fun _ => 0)
def r408 : Rf := sR r407 316 (va_up (r407 316) 0 (some 1))
def s408 : St := s407
def r409 : Rf := sR r408 0 (va_up (r408 0) 8 (some 316))
def s409 : St := s408
def r410 : Rf := sR r409 317 (fun _ => none)
def s410 : St := sL (sI s409 317 (fun _ => 0)) 317 (fun _ => 0)
def r411 : Rf := sR r410 317 (va_up (r410 317) 0 (some 316))
def s411 : St := s410
def r412 : Rf := sR r411 317 (va_up (r411 317) 2 (some 17))
def s412 : St := s411
def r413 : Rf := sR r412 318 (fun _ => none)
def s413 : St := sL (sI s412 318 (fun _ => 0)) 318 (fun _ => 0)
def r414 : Rf := sR r413 318 (va_up (r413 318) 0 (some 316))
def s414 : St := s413
def r415 : Rf := sR r414 318 (va_up (r414 318) 1 (some 27))
def s415 : St := s414
def r416 : Rf := sR r415 317 (va_up (r415 317) 1 (some 318))
def s416 : St := s415
def r417 : Rf := sR r416 0 (va_up (r416 0) 9 (some 317))
def s417 : St := s416
def r418 : Rf := sR r417 319 (fun _ => none)
def s418 : St := sL (sI s417 319 (fun _ => 0)) 319 (fun _ => 0)
def r419 : Rf := sR r418 320 (fun _ => none)
def s419 : St := sL (sI s418 320 (fun _ => 0)) 320 (fun _ => 0)
def r420 : Rf := sR r419 319 (va_up (r419 319) 0 (some 320))
def s420 : St := s419
def r421 : Rf := sR r420 321 (fun _ => none)
def s421 : St := sL (sI s420 321 (fun _ => 0)) 321 (fun _ => 0)
def r422 : Rf := sR r421 319 (va_up (r421 319) 1 (some 321))
def s422 : St := s421
def r423 : Rf := sR r422 0 (va_up (r422 0) 10 (some 319))
def s423 : St := s422
def r424 : Rf := sR r423 322 (fun _ => none)
def s424 : St := sL (sI s423 322 (fun _ => 0)) 322 (fun _ => 0)
def r425 : Rf := sR r424 0 (va_up (r424 0) 11 (some 322))
def s425 : St := s424
def r426 : Rf := sR r425 323 (fun _ => none)
def s426 : St := sL (sI s425 323 (fun _ => 0)) 323 (fun _ => 0)
def r427 : Rf := sR r426 0 (va_up (r426 0) 13 (some 323))
def s427 : St := s426
def r428 : Rf := r427
def s428 : St := sI s427 0 (upd (s427.1 0) 15 (-1))
def r429 : Rf := r428
def s429 : St := sI s428 0 (upd (s428.1 0) 16 1)
def r430 : Rf := sR r429 324 (fun _ => none)
def s430 : St := sL (sI s429 324 (fun _ => 0)) 324 (fun _ => 0)
def r431 : Rf := sR r430 325 (fun _ => none)
def s431 : St := sL (sI s430 325 (fun _ => 0)) 325 (fun _ => 0)
def r432 : Rf := sR r431 324 (va_up (r431 324) 0 (some 325))
def s432 : St := s431
def r433 : Rf := r432
def s433 : St := sI s432 324 (upd (s432.1 324) 8 (-1))
def r434 : Rf := sR r433 326 (fun _ => none)
def s434 : St := sL (sI s433 326 (fun _ => 0)) 326 (fun _ => 0)
def r435 : Rf := sR r434 324 (va_up (r434 324) 9 (some 326))
def s435 : St := s434
def r436 : Rf := sR r435 327 (fun _ => none)
def s436 : St := sL (sI s435 327 (fun _ => 0)) 327 (fun _ => 0)
def r437 : Rf := r436
def s437 : St := sI s436 327 (upd (s436.1 327) (0 : Int32).toNatClampNeg (vp_nar .char 105))
def r438 : Rf := r437
def s438 : St := sI s437 327 (upd (s437.1 327) (1 : Int32).toNatClampNeg (vp_nar .char 100))
def r439 : Rf := r438
def s439 : St := sI s438 327 (upd (s438.1 327) (2 : Int32).toNatClampNeg (vp_nar .char 101))
def r440 : Rf := r439
def s440 : St := sI s439 327 (upd (s439.1 327) (3 : Int32).toNatClampNeg (vp_nar .char 97))
def r441 : Rf := sR r440 324 (va_up (r440 324) 11 (some 327))
def s441 : St := s440
def r442 : Rf := sR r441 328 (fun _ => none)
def s442 : St := sL (sI s441 328 (fun _ => 0)) 328 (fun _ => 0)
def r443 : Rf := r442
def s443 : St := sI s442 328 (upd (s442.1 328) (0 : Int32).toNatClampNeg (vp_nar .char 100))
def r444 : Rf := r443
def s444 : St := sI s443 328 (upd (s443.1 328) (1 : Int32).toNatClampNeg (vp_nar .char 101))
def r445 : Rf := r444
def s445 : St := sI s444 328 (upd (s444.1 328) (2 : Int32).toNatClampNeg (vp_nar .char 112))
def r446 : Rf := r445
def s446 : St := sI s445 328 (upd (s445.1 328) (3 : Int32).toNatClampNeg (vp_nar .char 116))
def r447 : Rf := r446
def s447 : St := sI s446 328 (upd (s446.1 328) (4 : Int32).toNatClampNeg (vp_nar .char 104))
def r448 : Rf := sR r447 324 (va_up (r447 324) 12 (some 328))
def s448 : St := s447
def r449 : Rf := sR r448 329 (fun _ => none)
def s449 : St := sL (sI s448 329 (fun _ => 0)) 329 (fun _ => 0)
def r450 : Rf := r449
def s450 : St := sI s449 329 (upd (s449.1 329) (0 : Int32).toNatClampNeg (vp_nar .char 110))
def r451 : Rf := r450
def s451 : St := sI s450 329 (upd (s450.1 329) (1 : Int32).toNatClampNeg (vp_nar .char 101))
def r452 : Rf := r451
def s452 : St := sI s451 329 (upd (s451.1 329) (2 : Int32).toNatClampNeg (vp_nar .char 101))
def r453 : Rf := r452
def s453 : St := sI s452 329 (upd (s452.1 329) (3 : Int32).toNatClampNeg (vp_nar .char 100))
def r454 : Rf := sR r453 324 (va_up (r453 324) 13 (some 329))
def s454 : St := s453
def r455 : Rf := sR r454 330 (fun _ => none)
def s455 : St := sL (sI s454 330 (fun _ => 0)) 330 (fun _ => 0)
def r456 : Rf := r455
def s456 : St := sI s455 330 (upd (s455.1 330) (0 : Int32).toNatClampNeg (vp_nar .char 102))
def r457 : Rf := r456
def s457 : St := sI s456 330 (upd (s456.1 330) (1 : Int32).toNatClampNeg (vp_nar .char 111))
def r458 : Rf := r457
def s458 : St := sI s457 330 (upd (s457.1 330) (2 : Int32).toNatClampNeg (vp_nar .char 114))
def r459 : Rf := sR r458 324 (va_up (r458 324) 14 (some 330))
def s459 : St := s458
def r460 : Rf := sR r459 331 (fun _ => none)
def s460 : St := sL (sI s459 331 (fun _ => 0)) 331 (fun _ => 0)
def r461 : Rf := r460
def s461 : St := sI s460 331 (upd (s460.1 331) (0 : Int32).toNatClampNeg (vp_nar .char 98))
def r462 : Rf := r461
def s462 : St := sI s461 331 (upd (s461.1 331) (1 : Int32).toNatClampNeg (vp_nar .char 97))
def r463 : Rf := r462
def s463 : St := sI s462 331 (upd (s462.1 331) (2 : Int32).toNatClampNeg (vp_nar .char 116))
def r464 : Rf := r463
def s464 : St := sI s463 331 (upd (s463.1 331) (3 : Int32).toNatClampNeg (vp_nar .char 104))
def r465 : Rf := r464
def s465 : St := sI s464 331 (upd (s464.1 331) (4 : Int32).toNatClampNeg (vp_nar .char 101))
def r466 : Rf := r465
def s466 : St := sI s465 331 (upd (s465.1 331) (5 : Int32).toNatClampNeg (vp_nar .char 114))
def r467 : Rf := sR r466 324 (va_up (r466 324) 15 (some 331))
def s467 : St := s466
def r468 : Rf := sR r467 332 (fun _ => none)
def s468 : St := sL (sI s467 332 (fun _ => 0)) 332 (fun _ => 0)
def r469 : Rf := r468
def s469 : St := sI s468 332 (upd (s468.1 332) (0 : Int32).toNatClampNeg (vp_nar .char 108))
def r470 : Rf := r469
def s470 : St := sI s469 332 (upd (s469.1 332) (1 : Int32).toNatClampNeg (vp_nar .char 117))
def r471 : Rf := r470
def s471 : St := sI s470 332 (upd (s470.1 332) (2 : Int32).toNatClampNeg (vp_nar .char 110))
def r472 : Rf := r471
def s472 : St := sI s471 332 (upd (s471.1 332) (3 : Int32).toNatClampNeg (vp_nar .char 103))
def r473 : Rf := sR r472 324 (va_up (r472 324) 16 (some 332))
def s473 : St := s472
def r474 : Rf := sR r473 333 (fun _ => none)
def s474 : St := sL (sI s473 333 (fun _ => 0)) 333 (fun _ => 0)
def r475 : Rf := r474
def s475 : St := sI s474 333 (upd (s474.1 333) (0 : Int32).toNatClampNeg (vp_nar .char 119))
def r476 : Rf := r475
def s476 : St := sI s475 333 (upd (s475.1 333) (1 : Int32).toNatClampNeg (vp_nar .char 105))
def r477 : Rf := r476
def s477 : St := sI s476 333 (upd (s476.1 333) (2 : Int32).toNatClampNeg (vp_nar .char 116))
def r478 : Rf := r477
def s478 : St := sI s477 333 (upd (s477.1 333) (3 : Int32).toNatClampNeg (vp_nar .char 115))
def r479 : Rf := sR r478 324 (va_up (r478 324) 17 (some 333))
def s479 : St := s478
def r480 : Rf := sR r479 334 (fun _ => none)
def s480 : St := sL (sI s479 334 (fun _ => 0)) 334 (fun _ => 0)
def r481 : Rf := r480
def s481 : St := sI s480 334 (upd (s480.1 334) (0 : Int32).toNatClampNeg (vp_nar .char 112))
def r482 : Rf := r481
def s482 : St := sI s481 334 (upd (s481.1 334) (1 : Int32).toNatClampNeg (vp_nar .char 108))
def r483 : Rf := r482
def s483 : St := sI s482 334 (upd (s482.1 334) (2 : Int32).toNatClampNeg (vp_nar .char 97))
def r484 : Rf := r483
def s484 : St := sI s483 334 (upd (s483.1 334) (3 : Int32).toNatClampNeg (vp_nar .char 110))
def r485 : Rf := sR r484 324 (va_up (r484 324) 18 (some 334))
def s485 : St := s484
def r486 : Rf := sR r485 335 (fun _ => none)
def s486 : St := sL (sI s485 335 (fun _ => 0)) 335 (fun _ => 0)
def r487 : Rf := r486
def s487 : St := sI s486 335 (upd (s486.1 335) (0 : Int32).toNatClampNeg (vp_nar .char 105))
def r488 : Rf := r487
def s488 : St := sI s487 335 (upd (s487.1 335) (1 : Int32).toNatClampNeg (vp_nar .char 110))
def r489 : Rf := sR r488 324 (va_up (r488 324) 19 (some 335))
def s489 : St := s488
def r490 : Rf := sR r489 336 (fun _ => none)
def s490 : St := sL (sI s489 336 (fun _ => 0)) 336 (fun _ => 0)
def r491 : Rf := r490
def s491 : St := sI s490 336 (upd (s490.1 336) (0 : Int32).toNatClampNeg (vp_nar .char 116))
def r492 : Rf := r491
def s492 : St := sI s491 336 (upd (s491.1 336) (1 : Int32).toNatClampNeg (vp_nar .char 105))
def r493 : Rf := r492
def s493 : St := sI s492 336 (upd (s492.1 336) (2 : Int32).toNatClampNeg (vp_nar .char 100))
def r494 : Rf := r493
def s494 : St := sI s493 336 (upd (s493.1 336) (3 : Int32).toNatClampNeg (vp_nar .char 101))
def r495 : Rf := sR r494 324 (va_up (r494 324) 20 (some 336))
def s495 : St := s494
def r496 : Rf := sR r495 337 (fun _ => none)
def s496 : St := sL (sI s495 337 (fun _ => 0)) 337 (fun _ => 0)
def r497 : Rf := r496
def s497 : St := sI s496 337 (upd (s496.1 337) (0 : Int32).toNatClampNeg (vp_nar .char 107))
def r498 : Rf := r497
def s498 : St := sI s497 337 (upd (s497.1 337) (1 : Int32).toNatClampNeg (vp_nar .char 101))
def r499 : Rf := r498
def s499 : St := sI s498 337 (upd (s498.1 337) (2 : Int32).toNatClampNeg (vp_nar .char 101))
def r500 : Rf := r499
def s500 : St := sI s499 337 (upd (s499.1 337) (3 : Int32).toNatClampNeg (vp_nar .char 112))
def r501 : Rf := r500
def s501 : St := sI s500 337 (upd (s500.1 337) (4 : Int32).toNatClampNeg (vp_nar .char 115))
def r502 : Rf := sR r501 324 (va_up (r501 324) 21 (some 337))
def s502 : St := s501
def r503 : Rf := sR r502 338 (fun _ => none)
def s503 : St := sL (sI s502 338 (fun _ => 0)) 338 (fun _ => 0)
def r504 : Rf := r503
def s504 : St := sI s503 338 (upd (s503.1 338) (0 : Int32).toNatClampNeg (vp_nar .char 102))
def r505 : Rf := r504
def s505 : St := sI s504 338 (upd (s504.1 338) (1 : Int32).toNatClampNeg (vp_nar .char 97))
def r506 : Rf := r505
def s506 : St := sI s505 338 (upd (s505.1 338) (2 : Int32).toNatClampNeg (vp_nar .char 100))
def r507 : Rf := r506
def s507 : St := sI s506 338 (upd (s506.1 338) (3 : Int32).toNatClampNeg (vp_nar .char 101))
def r508 : Rf := r507
def s508 : St := sI s507 338 (upd (s507.1 338) (4 : Int32).toNatClampNeg (vp_nar .char 115))
def r509 : Rf := sR r508 324 (va_up (r508 324) 22 (some 338))
def s509 : St := s508
def r510 : Rf := sR r509 339 (fun _ => none)
def s510 : St := sL (sI s509 339 (fun _ => 0)) 339 (fun _ => 0)
def r511 : Rf := r510
def s511 : St := sI s510 339 (upd (s510.1 339) (0 : Int32).toNatClampNeg (vp_nar .char 98))
def r512 : Rf := r511
def s512 : St := sI s511 339 (upd (s511.1 339) (1 : Int32).toNatClampNeg (vp_nar .char 101))
def r513 : Rf := r512
def s513 : St := sI s512 339 (upd (s512.1 339) (2 : Int32).toNatClampNeg (vp_nar .char 97))
def r514 : Rf := r513
def s514 : St := sI s513 339 (upd (s513.1 339) (3 : Int32).toNatClampNeg (vp_nar .char 114))
def r515 : Rf := r514
def s515 : St := sI s514 339 (upd (s514.1 339) (4 : Int32).toNatClampNeg (vp_nar .char 115))
def r516 : Rf := sR r515 324 (va_up (r515 324) 23 (some 339))
def s516 : St := s515
def r517 : Rf := sR r516 340 (fun _ => none)
def s517 : St := sL (sI s516 340 (fun _ => 0)) 340 (fun _ => 0)
def r518 : Rf := r517
def s518 : St := sI s517 340 (upd (s517.1 340) (0 : Int32).toNatClampNeg (vp_nar .char 115))
def r519 : Rf := r518
def s519 : St := sI s518 340 (upd (s518.1 340) (1 : Int32).toNatClampNeg (vp_nar .char 113))
def r520 : Rf := r519
def s520 : St := sI s519 340 (upd (s519.1 340) (2 : Int32).toNatClampNeg (vp_nar .char 117))
def r521 : Rf := r520
def s521 : St := sI s520 340 (upd (s520.1 340) (3 : Int32).toNatClampNeg (vp_nar .char 97))
def r522 : Rf := r521
def s522 : St := sI s521 340 (upd (s521.1 340) (4 : Int32).toNatClampNeg (vp_nar .char 108))
def r523 : Rf := r522
def s523 : St := sI s522 340 (upd (s522.1 340) (5 : Int32).toNatClampNeg (vp_nar .char 108))
def r524 : Rf := sR r523 324 (va_up (r523 324) 24 (some 340))
def s524 : St := s523
def r525 : Rf := sR r524 341 (fun _ => none)
def s525 : St := sL (sI s524 341 (fun _ => 0)) 341 (fun _ => 0)
def r526 : Rf := r525
def s526 : St := sI s525 341 (upd (s525.1 341) (0 : Int32).toNatClampNeg (vp_nar .char 104))
def r527 : Rf := r526
def s527 : St := sI s526 341 (upd (s526.1 341) (1 : Int32).toNatClampNeg (vp_nar .char 111))
def r528 : Rf := r527
def s528 : St := sI s527 341 (upd (s527.1 341) (2 : Int32).toNatClampNeg (vp_nar .char 117))
def r529 : Rf := r528
def s529 : St := sI s528 341 (upd (s528.1 341) (3 : Int32).toNatClampNeg (vp_nar .char 114))
def r530 : Rf := sR r529 324 (va_up (r529 324) 25 (some 341))
def s530 : St := s529
def r531 : Rf := sR r530 342 (fun _ => none)
def s531 : St := sL (sI s530 342 (fun _ => 0)) 342 (fun _ => 0)
def r532 : Rf := r531
def s532 : St := sI s531 342 (upd (s531.1 342) (0 : Int32).toNatClampNeg (vp_nar .char 107))
def r533 : Rf := r532
def s533 : St := sI s532 342 (upd (s532.1 342) (1 : Int32).toNatClampNeg (vp_nar .char 110))
def r534 : Rf := r533
def s534 : St := sI s533 342 (upd (s533.1 342) (2 : Int32).toNatClampNeg (vp_nar .char 111))
def r535 : Rf := r534
def s535 : St := sI s534 342 (upd (s534.1 342) (3 : Int32).toNatClampNeg (vp_nar .char 119))
def r536 : Rf := r535
def s536 : St := sI s535 342 (upd (s535.1 342) (4 : Int32).toNatClampNeg (vp_nar .char 110))
def r537 : Rf := sR r536 324 (va_up (r536 324) 26 (some 342))
def s537 : St := s536
def r538 : Rf := sR r537 343 (fun _ => none)
def s538 : St := sL (sI s537 343 (fun _ => 0)) 343 (fun _ => 0)
def r539 : Rf := r538
def s539 : St := sI s538 343 (upd (s538.1 343) (0 : Int32).toNatClampNeg (vp_nar .char 115))
def r540 : Rf := r539
def s540 : St := sI s539 343 (upd (s539.1 343) (1 : Int32).toNatClampNeg (vp_nar .char 116))
def r541 : Rf := r540
def s541 : St := sI s540 343 (upd (s540.1 343) (2 : Int32).toNatClampNeg (vp_nar .char 114))
def r542 : Rf := r541
def s542 : St := sI s541 343 (upd (s541.1 343) (3 : Int32).toNatClampNeg (vp_nar .char 101))
def r543 : Rf := r542
def s543 : St := sI s542 343 (upd (s542.1 343) (4 : Int32).toNatClampNeg (vp_nar .char 110))
def r544 : Rf := r543
def s544 : St := sI s543 343 (upd (s543.1 343) (5 : Int32).toNatClampNeg (vp_nar .char 103))
def r545 : Rf := r544
def s545 : St := sI s544 343 (upd (s544.1 343) (6 : Int32).toNatClampNeg (vp_nar .char 116))
def r546 : Rf := r545
def s546 : St := sI s545 343 (upd (s545.1 343) (7 : Int32).toNatClampNeg (vp_nar .char 104))
def r547 : Rf := sR r546 324 (va_up (r546 324) 27 (some 343))
def s547 : St := s546
def r548 : Rf := sR r547 344 (fun _ => none)
def s548 : St := sL (sI s547 344 (fun _ => 0)) 344 (fun _ => 0)
def r549 : Rf := r548
def s549 : St := sI s548 344 (upd (s548.1 344) (0 : Int32).toNatClampNeg (vp_nar .char 114))
def r550 : Rf := r549
def s550 : St := sI s549 344 (upd (s549.1 344) (1 : Int32).toNatClampNeg (vp_nar .char 111))
def r551 : Rf := r550
def s551 : St := sI s550 344 (upd (s550.1 344) (2 : Int32).toNatClampNeg (vp_nar .char 111))
def r552 : Rf := r551
def s552 : St := sI s551 344 (upd (s551.1 344) (3 : Int32).toNatClampNeg (vp_nar .char 116))
def r553 : Rf := r552
def s553 : St := sI s552 344 (upd (s552.1 344) (4 : Int32).toNatClampNeg (vp_nar .char 101))
def r554 : Rf := r553
def s554 : St := sI s553 344 (upd (s553.1 344) (5 : Int32).toNatClampNeg (vp_nar .char 100))
def r555 : Rf := sR r554 324 (va_up (r554 324) 28 (some 344))
def s555 : St := s554
def r556 : Rf := sR r555 345 (fun _ => none)
def s556 : St := sL (sI s555 345 (fun _ => 0)) 345 (fun _ => 0)
def r557 : Rf := r556
def s557 : St := sI s556 345 (upd (s556.1 345) (0 : Int32).toNatClampNeg (vp_nar .char 110))
def r558 : Rf := r557
def s558 : St := sI s557 345 (upd (s557.1 345) (1 : Int32).toNatClampNeg (vp_nar .char 117))
def r559 : Rf := r558
def s559 : St := sI s558 345 (upd (s558.1 345) (2 : Int32).toNatClampNeg (vp_nar .char 109))
def r560 : Rf := r559
def s560 : St := sI s559 345 (upd (s559.1 345) (3 : Int32).toNatClampNeg (vp_nar .char 98))
def r561 : Rf := r560
def s561 : St := sI s560 345 (upd (s560.1 345) (4 : Int32).toNatClampNeg (vp_nar .char 101))
def r562 : Rf := r561
def s562 : St := sI s561 345 (upd (s561.1 345) (5 : Int32).toNatClampNeg (vp_nar .char 114))
def r563 : Rf := sR r562 324 (va_up (r562 324) 29 (some 345))
def s563 : St := s562
def r564 : Rf := sR r563 346 (fun _ => none)
def s564 : St := sL (sI s563 346 (fun _ => 0)) 346 (fun _ => 0)
def r565 : Rf := r564
def s565 : St := sI s564 346 (upd (s564.1 346) (0 : Int32).toNatClampNeg (vp_nar .char 107))
def r566 : Rf := r565
def s566 : St := sI s565 346 (upd (s565.1 346) (1 : Int32).toNatClampNeg (vp_nar .char 110))
def r567 : Rf := r566
def s567 : St := sI s566 346 (upd (s566.1 346) (2 : Int32).toNatClampNeg (vp_nar .char 111))
def r568 : Rf := r567
def s568 : St := sI s567 346 (upd (s567.1 346) (3 : Int32).toNatClampNeg (vp_nar .char 119))
def r569 : Rf := r568
def s569 : St := sI s568 346 (upd (s568.1 346) (4 : Int32).toNatClampNeg (vp_nar .char 115))
def r570 : Rf := sR r569 324 (va_up (r569 324) 30 (some 346))
def s570 : St := s569
def r571 : Rf := sR r570 347 (fun _ => none)
def s571 : St := sL (sI s570 347 (fun _ => 0)) 347 (fun _ => 0)
def r572 : Rf := r571
def s572 : St := sI s571 347 (upd (s571.1 347) (0 : Int32).toNatClampNeg (vp_nar .char 114))
def r573 : Rf := r572
def s573 : St := sI s572 347 (upd (s572.1 347) (1 : Int32).toNatClampNeg (vp_nar .char 101))
def r574 : Rf := r573
def s574 : St := sI s573 347 (upd (s573.1 347) (2 : Int32).toNatClampNeg (vp_nar .char 97))
def r575 : Rf := r574
def s575 : St := sI s574 347 (upd (s574.1 347) (3 : Int32).toNatClampNeg (vp_nar .char 100))
def r576 : Rf := r575
def s576 : St := sI s575 347 (upd (s575.1 347) (4 : Int32).toNatClampNeg (vp_nar .char 121))
def r577 : Rf := sR r576 324 (va_up (r576 324) 31 (some 347))
def s577 : St := s576
def r578 : Rf := sR r577 348 (fun _ => none)
def s578 : St := sL (sI s577 348 (fun _ => 0)) 348 (fun _ => 0)
def r579 : Rf := r578
def s579 : St := sI s578 348 (upd (s578.1 348) (0 : Int32).toNatClampNeg (vp_nar .char 111))
def r580 : Rf := r579
def s580 : St := sI s579 348 (upd (s579.1 348) (1 : Int32).toNatClampNeg (vp_nar .char 114))
def r581 : Rf := sR r580 324 (va_up (r580 324) 32 (some 348))
def s581 : St := s580
def r582 : Rf := sR r581 349 (fun _ => none)
def s582 : St := sL (sI s581 349 (fun _ => 0)) 349 (fun _ => 0)
def r583 : Rf := r582
def s583 : St := sI s582 349 (upd (s582.1 349) (0 : Int32).toNatClampNeg (vp_nar .char 97))
def r584 : Rf := r583
def s584 : St := sI s583 349 (upd (s583.1 349) (1 : Int32).toNatClampNeg (vp_nar .char 110))
def r585 : Rf := r584
def s585 : St := sI s584 349 (upd (s584.1 349) (2 : Int32).toNatClampNeg (vp_nar .char 100))
def r586 : Rf := sR r585 324 (va_up (r585 324) 33 (some 349))
def s586 : St := s585
def r587 : Rf := sR r586 350 (fun _ => none)
def s587 : St := sL (sI s586 350 (fun _ => 0)) 350 (fun _ => 0)
def r588 : Rf := r587
def s588 : St := sI s587 350 (upd (s587.1 350) (0 : Int32).toNatClampNeg (vp_nar .char 110))
def r589 : Rf := r588
def s589 : St := sI s588 350 (upd (s588.1 350) (1 : Int32).toNatClampNeg (vp_nar .char 111))
def r590 : Rf := r589
def s590 : St := sI s589 350 (upd (s589.1 350) (2 : Int32).toNatClampNeg (vp_nar .char 116))
def r591 : Rf := sR r590 324 (va_up (r590 324) 34 (some 350))
def s591 : St := s590
def r592 : Rf := sR r591 351 (fun _ => none)
def s592 : St := sL (sI s591 351 (fun _ => 0)) 351 (fun _ => 0)
def r593 : Rf := r592
def s593 : St := sI s592 351 (upd (s592.1 351) (0 : Int32).toNatClampNeg (vp_nar .char 97))
def r594 : Rf := r593
def s594 : St := sI s593 351 (upd (s593.1 351) (1 : Int32).toNatClampNeg (vp_nar .char 108))
def r595 : Rf := r594
def s595 : St := sI s594 351 (upd (s594.1 351) (2 : Int32).toNatClampNeg (vp_nar .char 108))
def r596 : Rf := sR r595 324 (va_up (r595 324) 35 (some 351))
def s596 : St := s595
def r597 : Rf := sR r596 352 (fun _ => none)
def s597 : St := sL (sI s596 352 (fun _ => 0)) 352 (fun _ => 0)
def r598 : Rf := r597
def s598 : St := sI s597 352 (upd (s597.1 352) (0 : Int32).toNatClampNeg (vp_nar .char 109))
def r599 : Rf := r598
def s599 : St := sI s598 352 (upd (s598.1 352) (1 : Int32).toNatClampNeg (vp_nar .char 105))
def r600 : Rf := r599
def s600 : St := sI s599 352 (upd (s599.1 352) (2 : Int32).toNatClampNeg (vp_nar .char 110))
def r601 : Rf := sR r600 324 (va_up (r600 324) 36 (some 352))
def s601 : St := s600
def r602 : Rf := sR r601 353 (fun _ => none)
def s602 : St := sL (sI s601 353 (fun _ => 0)) 353 (fun _ => 0)
def r603 : Rf := r602
def s603 : St := sI s602 353 (upd (s602.1 353) (0 : Int32).toNatClampNeg (vp_nar .char 109))
def r604 : Rf := r603
def s604 : St := sI s603 353 (upd (s603.1 353) (1 : Int32).toNatClampNeg (vp_nar .char 97))
def r605 : Rf := r604
def s605 : St := sI s604 353 (upd (s604.1 353) (2 : Int32).toNatClampNeg (vp_nar .char 120))
def r606 : Rf := sR r605 324 (va_up (r605 324) 37 (some 353))
def s606 : St := s605
def r607 : Rf := sR r606 354 (fun _ => none)
def s607 : St := sL (sI s606 354 (fun _ => 0)) 354 (fun _ => 0)
def r608 : Rf := sR r607 324 (va_up (r607 324) 39 (some 354))
def s608 : St := s607
def r609 : Rf := sR r608 355 (fun _ => none)
def s609 : St := sL (sI s608 355 (fun _ => 0)) 355 (fun _ => 0)
def r610 : Rf := sR r609 324 (va_up (r609 324) 40 (some 355))
def s610 : St := s609
def r611 : Rf := sR r610 356 (fun _ => none)
def s611 : St := sL (sI s610 356 (fun _ => 0)) 356 (fun _ => 0)
def r612 : Rf := sR r611 324 (va_up (r611 324) 41 (some 356))
def s612 : St := s611
def r613 : Rf := sR r612 357 (fun _ => none)
def s613 : St := sL (sI s612 357 (fun _ => 0)) 357 (fun _ => 0)
def r614 : Rf := sR r613 324 (va_up (r613 324) 42 (some 357))
def s614 : St := s613
def r615 : Rf := sR r614 358 (fun _ => none)
def s615 : St := sL (sI s614 358 (fun _ => 0)) 358 (fun _ => 0)
def r616 : Rf := sR r615 324 (va_up (r615 324) 43 (some 358))
def s616 : St := s615
def r617 : Rf := sR r616 359 (fun _ => none)
def s617 : St := sL (sI s616 359 (fun _ => 0)) 359 (fun _ => 0)
def r618 : Rf := sR r617 324 (va_up (r617 324) 44 (some 359))
def s618 : St := s617
def r619 : Rf := sR r618 360 (fun _ => none)
def s619 : St := sL (sI s618 360 (fun _ => 0)) 360 (fun _ => 0)
def r620 : Rf := r619
def s620 : St := sI s619 360 (upd (s619.1 360) (0 : Int32).toNatClampNeg (-1))
def r621 : Rf := r620
def s621 : St := sI s620 360 (upd (s620.1 360) (1 : Int32).toNatClampNeg (-1))
def r622 : Rf := r621
def s622 : St := sI s621 360 (upd (s621.1 360) (2 : Int32).toNatClampNeg (-1))
def r623 : Rf := r622
def s623 : St := sI s622 360 (upd (s622.1 360) (3 : Int32).toNatClampNeg (-1))
def r624 : Rf := r623
def s624 : St := sI s623 360 (upd (s623.1 360) (4 : Int32).toNatClampNeg (-1))
def r625 : Rf := r624
def s625 : St := sI s624 360 (upd (s624.1 360) (5 : Int32).toNatClampNeg (-1))
def r626 : Rf := r625
def s626 : St := sI s625 360 (upd (s625.1 360) (6 : Int32).toNatClampNeg (-1))
def r627 : Rf := r626
def s627 : St := sI s626 360 (upd (s626.1 360) (7 : Int32).toNatClampNeg (-1))
def r628 : Rf := sR r627 324 (va_up (r627 324) 45 (some 360))
def s628 : St := s627
def r629 : Rf := sR r628 361 (fun _ => none)
def s629 : St := sL (sI s628 361 (fun _ => 0)) 361 (fun _ => 0)
def r630 : Rf := sR r629 324 (va_up (r629 324) 46 (some 361))
def s630 : St := s629
def r631 : Rf := sR r630 362 (fun _ => none)
def s631 : St := sL (sI s630 362 (fun _ => 0)) 362 (fun _ => 0)
def r632 : Rf := sR r631 324 (va_up (r631 324) 47 (some 362))
def s632 : St := s631
def r633 : Rf := sR r632 363 (fun _ => none)
def s633 : St := sL (sI s632 363 (fun _ => 0)) 363 (fun _ => 0)
def r634 : Rf := sR r633 324 (va_up (r633 324) 51 (some 363))
def s634 : St := s633
def r635 : Rf := sR r634 364 (fun _ => none)
def s635 : St := sL (sI s634 364 (fun _ => 0)) 364 (fun _ => 0)
def r636 : Rf := sR r635 324 (va_up (r635 324) 52 (some 364))
def s636 : St := s635
def r637 : Rf := r636
def s637 : St := sI s636 324 (upd (s636.1 324) 53 (-1))
def r638 : Rf := sR r637 365 (fun _ => none)
def s638 : St := sL (sI s637 365 (fun _ => 0)) 365 (fun _ => 0)
def r639 : Rf := sR r638 324 (va_up (r638 324) 59 (some 365))
def s639 : St := s638
def r640 : Rf := sR r639 366 (fun _ => none)
def s640 : St := sL (sI s639 366 (fun _ => 0)) 366 (fun _ => 0)
def r641 : Rf := sR r640 324 (va_up (r640 324) 62 (some 366))
def s641 : St := s640
def r642 : Rf := sR r641 367 (fun _ => none)
def s642 : St := sL (sI s641 367 (fun _ => 0)) 367 (fun _ => 0)
def r643 : Rf := sR r642 324 (va_up (r642 324) 63 (some 367))
def s643 : St := s642
def r644 : Rf := sR r643 368 (fun _ => none)
def s644 : St := sL (sI s643 368 (fun _ => 0)) 368 (fun _ => 0)
def r645 : Rf := sR r644 324 (va_up (r644 324) 67 (some 368))
def s645 : St := s644
def r646 : Rf := sR r645 369 (fun _ => none)
def s646 : St := sL (sI s645 369 (fun _ => 0)) 369 (fun _ => 0)
def r647 : Rf := sR r646 324 (va_up (r646 324) 68 (some 369))
def s647 : St := s646
def r648 : Rf := sR r647 370 (fun _ => none)
def s648 : St := sL (sI s647 370 (fun _ => 0)) 370 (fun _ => 0)
def r649 : Rf := sR r648 324 (va_up (r648 324) 70 (some 370))
def s649 : St := s648
def r650 : Rf := sR r649 371 (fun _ => none)
def s650 : St := sL (sI s649 371 (fun _ => 0)) 371 (fun _ => 0)
def r651 : Rf := sR r650 324 (va_up (r650 324) 71 (some 371))
def s651 : St := s650
def r652 : Rf := sR r651 372 (fun _ => none)
def s652 : St := sL (sI s651 372 (fun _ => 0)) 372 (fun _ => 0)
def r653 : Rf := sR r652 324 (va_up (r652 324) 72 (some 372))
def s653 : St := s652
def r654 : Rf := r653
def s654 : St := sL s653 324 (vp_updL (s653.2 324) 75 1)
def r655 : Rf := sR r654 373 (fun _ => none)
def s655 : St := sL (sI s654 373 (fun _ => 0)) 373 (fun _ => 0)
def r656 : Rf := r655
def s656 : St := sI s655 373 (upd (s655.1 373) (0 : Int32).toNatClampNeg (vp_nar .char 102))
def r657 : Rf := r656
def s657 : St := sI s656 373 (upd (s656.1 373) (1 : Int32).toNatClampNeg (vp_nar .char 105))
def r658 : Rf := r657
def s658 : St := sI s657 373 (upd (s657.1 373) (2 : Int32).toNatClampNeg (vp_nar .char 114))
def r659 : Rf := r658
def s659 : St := sI s658 373 (upd (s658.1 373) (3 : Int32).toNatClampNeg (vp_nar .char 115))
def r660 : Rf := r659
def s660 : St := sI s659 373 (upd (s659.1 373) (4 : Int32).toNatClampNeg (vp_nar .char 116))
def r661 : Rf := sR r660 324 (va_up (r660 324) 76 (some 373))
def s661 : St := s660
def r662 : Rf := sR r661 374 (fun _ => none)
def s662 : St := sL (sI s661 374 (fun _ => 0)) 374 (fun _ => 0)
def r663 : Rf := r662
def s663 : St := sI s662 374 (upd (s662.1 374) (0 : Int32).toNatClampNeg (vp_nar .char 108))
def r664 : Rf := r663
def s664 : St := sI s663 374 (upd (s663.1 374) (1 : Int32).toNatClampNeg (vp_nar .char 97))
def r665 : Rf := r664
def s665 : St := sI s664 374 (upd (s664.1 374) (2 : Int32).toNatClampNeg (vp_nar .char 115))
def r666 : Rf := r665
def s666 : St := sI s665 374 (upd (s665.1 374) (3 : Int32).toNatClampNeg (vp_nar .char 116))
def r667 : Rf := sR r666 324 (va_up (r666 324) 77 (some 374))
def s667 : St := s666
def r668 : Rf := sR r667 375 (fun _ => none)
def s668 : St := sL (sI s667 375 (fun _ => 0)) 375 (fun _ => 0)
def r669 : Rf := r668
def s669 : St := sI s668 375 (upd (s668.1 375) (0 : Int32).toNatClampNeg (vp_nar .char 111))
def r670 : Rf := r669
def s670 : St := sI s669 375 (upd (s669.1 375) (1 : Int32).toNatClampNeg (vp_nar .char 102))
def r671 : Rf := r670
def s671 : St := sI s670 375 (upd (s670.1 375) (2 : Int32).toNatClampNeg (vp_nar .char 116))
def r672 : Rf := r671
def s672 : St := sI s671 375 (upd (s671.1 375) (3 : Int32).toNatClampNeg (vp_nar .char 101))
def r673 : Rf := r672
def s673 : St := sI s672 375 (upd (s672.1 375) (4 : Int32).toNatClampNeg (vp_nar .char 110))
def r674 : Rf := sR r673 324 (va_up (r673 324) 78 (some 375))
def s674 : St := s673
def r675 : Rf := sR r674 376 (fun _ => none)
def s675 : St := sL (sI s674 376 (fun _ => 0)) 376 (fun _ => 0)
def r676 : Rf := r675
def s676 : St := sI s675 376 (upd (s675.1 376) (0 : Int32).toNatClampNeg (vp_nar .char 116))
def r677 : Rf := r676
def s677 : St := sI s676 376 (upd (s676.1 376) (1 : Int32).toNatClampNeg (vp_nar .char 111))
def r678 : Rf := r677
def s678 : St := sI s677 376 (upd (s677.1 376) (2 : Int32).toNatClampNeg (vp_nar .char 116))
def r679 : Rf := r678
def s679 : St := sI s678 376 (upd (s678.1 376) (3 : Int32).toNatClampNeg (vp_nar .char 97))
def r680 : Rf := r679
def s680 : St := sI s679 376 (upd (s679.1 376) (4 : Int32).toNatClampNeg (vp_nar .char 108))
def r681 : Rf := sR r680 324 (va_up (r680 324) 79 (some 376))
def s681 : St := s680
def r682 : Rf := sR r681 377 (fun _ => none)
def s682 : St := sL (sI s681 377 (fun _ => 0)) 377 (fun _ => 0)
def r683 : Rf := r682
def s683 : St := sI s682 377 (upd (s682.1 377) (0 : Int32).toNatClampNeg (vp_nar .char 109))
def r684 : Rf := r683
def s684 : St := sI s683 377 (upd (s683.1 377) (1 : Int32).toNatClampNeg (vp_nar .char 111))
def r685 : Rf := r684
def s685 : St := sI s684 377 (upd (s684.1 377) (2 : Int32).toNatClampNeg (vp_nar .char 115))
def r686 : Rf := r685
def s686 : St := sI s685 377 (upd (s685.1 377) (3 : Int32).toNatClampNeg (vp_nar .char 116))
def r687 : Rf := sR r686 324 (va_up (r686 324) 80 (some 377))
def s687 : St := s686
def r688 : Rf := sR r687 378 (fun _ => none)
def s688 : St := sL (sI s687 378 (fun _ => 0)) 378 (fun _ => 0)
def r689 : Rf := r688
def s689 : St := sI s688 378 (upd (s688.1 378) (0 : Int32).toNatClampNeg (vp_nar .char 108))
def r690 : Rf := r689
def s690 : St := sI s689 378 (upd (s689.1 378) (1 : Int32).toNatClampNeg (vp_nar .char 101))
def r691 : Rf := r690
def s691 : St := sI s690 378 (upd (s690.1 378) (2 : Int32).toNatClampNeg (vp_nar .char 97))
def r692 : Rf := r691
def s692 : St := sI s691 378 (upd (s691.1 378) (3 : Int32).toNatClampNeg (vp_nar .char 115))
def r693 : Rf := r692
def s693 : St := sI s692 378 (upd (s692.1 378) (4 : Int32).toNatClampNeg (vp_nar .char 116))
def r694 : Rf := sR r693 324 (va_up (r693 324) 81 (some 378))
def s694 : St := s693
def r695 : Rf := sR r694 379 (fun _ => none)
def s695 : St := sL (sI s694 379 (fun _ => 0)) 379 (fun _ => 0)
def r696 : Rf := r695
def s696 : St := sI s695 379 (upd (s695.1 379) (0 : Int32).toNatClampNeg (vp_nar .char 110))
def r697 : Rf := r696
def s697 : St := sI s696 379 (upd (s696.1 379) (1 : Int32).toNatClampNeg (vp_nar .char 111))
def r698 : Rf := r697
def s698 : St := sI s697 379 (upd (s697.1 379) (2 : Int32).toNatClampNeg (vp_nar .char 116))
def r699 : Rf := sR r698 324 (va_up (r698 324) 82 (some 379))
def s699 : St := s698
def r700 : Rf := sR r699 380 (fun _ => none)
def s700 : St := sL (sI s699 380 (fun _ => 0)) 380 (fun _ => 0)
def r701 : Rf := r700
def s701 : St := sI s700 380 (upd (s700.1 380) (0 : Int32).toNatClampNeg (vp_nar .char 97))
def r702 : Rf := r701
def s702 : St := sI s701 380 (upd (s701.1 380) (1 : Int32).toNatClampNeg (vp_nar .char 110))
def r703 : Rf := r702
def s703 : St := sI s702 380 (upd (s702.1 380) (2 : Int32).toNatClampNeg (vp_nar .char 100))
def r704 : Rf := sR r703 324 (va_up (r703 324) 83 (some 380))
def s704 : St := s703
def r705 : Rf := sR r704 381 (fun _ => none)
def s705 : St := sL (sI s704 381 (fun _ => 0)) 381 (fun _ => 0)
def r706 : Rf := r705
def s706 : St := sI s705 381 (upd (s705.1 381) (0 : Int32).toNatClampNeg (vp_nar .char 111))
def r707 : Rf := r706
def s707 : St := sI s706 381 (upd (s706.1 381) (1 : Int32).toNatClampNeg (vp_nar .char 114))
def r708 : Rf := sR r707 324 (va_up (r707 324) 84 (some 381))
def s708 : St := s707
def r709 : Rf := sR r708 382 (fun _ => none)
def s709 : St := sL (sI s708 382 (fun _ => 0)) 382 (fun _ => 0)
def r710 : Rf := r709
def s710 : St := sI s709 382 (upd (s709.1 382) (0 : Int32).toNatClampNeg (vp_nar .char 97))
def r711 : Rf := r710
def s711 : St := sI s710 382 (upd (s710.1 382) (1 : Int32).toNatClampNeg (vp_nar .char 108))
def r712 : Rf := r711
def s712 : St := sI s711 382 (upd (s711.1 382) (2 : Int32).toNatClampNeg (vp_nar .char 108))
def r713 : Rf := sR r712 324 (va_up (r712 324) 85 (some 382))
def s713 : St := s712
def r714 : Rf := sR r713 383 (fun _ => none)
def s714 : St := sL (sI s713 383 (fun _ => 0)) 383 (fun _ => 0)
def r715 : Rf := r714
def s715 : St := sI s714 383 (upd (s714.1 383) (0 : Int32).toNatClampNeg (vp_nar .char 109))
def r716 : Rf := r715
def s716 : St := sI s715 383 (upd (s715.1 383) (1 : Int32).toNatClampNeg (vp_nar .char 105))
def r717 : Rf := r716
def s717 : St := sI s716 383 (upd (s716.1 383) (2 : Int32).toNatClampNeg (vp_nar .char 110))
def r718 : Rf := sR r717 324 (va_up (r717 324) 86 (some 383))
def s718 : St := s717
def r719 : Rf := sR r718 384 (fun _ => none)
def s719 : St := sL (sI s718 384 (fun _ => 0)) 384 (fun _ => 0)
def r720 : Rf := r719
def s720 : St := sI s719 384 (upd (s719.1 384) (0 : Int32).toNatClampNeg (vp_nar .char 109))
def r721 : Rf := r720
def s721 : St := sI s720 384 (upd (s720.1 384) (1 : Int32).toNatClampNeg (vp_nar .char 97))
def r722 : Rf := r721
def s722 : St := sI s721 384 (upd (s721.1 384) (2 : Int32).toNatClampNeg (vp_nar .char 120))
def r723 : Rf := sR r722 324 (va_up (r722 324) 87 (some 384))
def s723 : St := s722
def r724 : Rf := sR r723 385 (fun _ => none)
def s724 : St := sL (sI s723 385 (fun _ => 0)) 385 (fun _ => 0)
def r725 : Rf := r724
def s725 : St := sI s724 385 (upd (s724.1 385) (0 : Int32).toNatClampNeg (vp_nar .char 104))
def r726 : Rf := r725
def s726 : St := sI s725 385 (upd (s725.1 385) (1 : Int32).toNatClampNeg (vp_nar .char 111))
def r727 : Rf := r726
def s727 : St := sI s726 385 (upd (s726.1 385) (2 : Int32).toNatClampNeg (vp_nar .char 117))
def r728 : Rf := r727
def s728 : St := sI s727 385 (upd (s727.1 385) (3 : Int32).toNatClampNeg (vp_nar .char 114))
def r729 : Rf := sR r728 324 (va_up (r728 324) 88 (some 385))
def s729 : St := s728
def r730 : Rf := sR r729 386 (fun _ => none)
def s730 : St := sL (sI s729 386 (fun _ => 0)) 386 (fun _ => 0)
def r731 : Rf := r730
def s731 : St := sI s730 386 (upd (s730.1 386) (0 : Int32).toNatClampNeg (vp_nar .char 100))
def r732 : Rf := r731
def s732 : St := sI s731 386 (upd (s731.1 386) (1 : Int32).toNatClampNeg (vp_nar .char 101))
def r733 : Rf := r732
def s733 : St := sI s732 386 (upd (s732.1 386) (2 : Int32).toNatClampNeg (vp_nar .char 112))
def r734 : Rf := r733
def s734 : St := sI s733 386 (upd (s733.1 386) (3 : Int32).toNatClampNeg (vp_nar .char 116))
def r735 : Rf := r734
def s735 : St := sI s734 386 (upd (s734.1 386) (4 : Int32).toNatClampNeg (vp_nar .char 104))
def r736 : Rf := sR r735 324 (va_up (r735 324) 89 (some 386))
def s736 : St := s735
def r737 : Rf := sR r736 387 (fun _ => none)
def s737 : St := sL (sI s736 387 (fun _ => 0)) 387 (fun _ => 0)
def r738 : Rf := r737
def s738 : St := sI s737 387 (upd (s737.1 387) (0 : Int32).toNatClampNeg (vp_nar .char 119))
def r739 : Rf := r738
def s739 : St := sI s738 387 (upd (s738.1 387) (1 : Int32).toNatClampNeg (vp_nar .char 105))
def r740 : Rf := r739
def s740 : St := sI s739 387 (upd (s739.1 387) (2 : Int32).toNatClampNeg (vp_nar .char 116))
def r741 : Rf := r740
def s741 : St := sI s740 387 (upd (s740.1 387) (3 : Int32).toNatClampNeg (vp_nar .char 115))
def r742 : Rf := sR r741 324 (va_up (r741 324) 90 (some 387))
def s742 : St := s741
def r743 : Rf := sR r742 388 (fun _ => none)
def s743 : St := sL (sI s742 388 (fun _ => 0)) 388 (fun _ => 0)
def r744 : Rf := r743
def s744 : St := sI s743 388 (upd (s743.1 388) (0 : Int32).toNatClampNeg (vp_nar .char 107))
def r745 : Rf := r744
def s745 : St := sI s744 388 (upd (s744.1 388) (1 : Int32).toNatClampNeg (vp_nar .char 110))
def r746 : Rf := r745
def s746 : St := sI s745 388 (upd (s745.1 388) (2 : Int32).toNatClampNeg (vp_nar .char 111))
def r747 : Rf := r746
def s747 : St := sI s746 388 (upd (s746.1 388) (3 : Int32).toNatClampNeg (vp_nar .char 119))
def r748 : Rf := r747
def s748 : St := sI s747 388 (upd (s747.1 388) (4 : Int32).toNatClampNeg (vp_nar .char 110))
def r749 : Rf := sR r748 324 (va_up (r748 324) 91 (some 388))
def s749 : St := s748
def r750 : Rf := sR r749 389 (fun _ => none)
def s750 : St := sL (sI s749 389 (fun _ => 0)) 389 (fun _ => 0)
def r751 : Rf := r750
def s751 : St := sI s750 389 (upd (s750.1 389) (0 : Int32).toNatClampNeg (vp_nar .char 108))
def r752 : Rf := r751
def s752 : St := sI s751 389 (upd (s751.1 389) (1 : Int32).toNatClampNeg (vp_nar .char 117))
def r753 : Rf := r752
def s753 : St := sI s752 389 (upd (s752.1 389) (2 : Int32).toNatClampNeg (vp_nar .char 110))
def r754 : Rf := r753
def s754 : St := sI s753 389 (upd (s753.1 389) (3 : Int32).toNatClampNeg (vp_nar .char 103))
def r755 : Rf := sR r754 324 (va_up (r754 324) 92 (some 389))
def s755 : St := s754
def r756 : Rf := sR r755 390 (fun _ => none)
def s756 : St := sL (sI s755 390 (fun _ => 0)) 390 (fun _ => 0)
def r757 : Rf := r756
def s757 : St := sI s756 390 (upd (s756.1 390) (0 : Int32).toNatClampNeg (vp_nar .char 116))
def r758 : Rf := r757
def s758 : St := sI s757 390 (upd (s757.1 390) (1 : Int32).toNatClampNeg (vp_nar .char 105))
def r759 : Rf := r758
def s759 : St := sI s758 390 (upd (s758.1 390) (2 : Int32).toNatClampNeg (vp_nar .char 100))
def r760 : Rf := r759
def s760 : St := sI s759 390 (upd (s759.1 390) (3 : Int32).toNatClampNeg (vp_nar .char 101))
def r761 : Rf := sR r760 324 (va_up (r760 324) 93 (some 390))
def s761 : St := s760
def r762 : Rf := sR r761 391 (fun _ => none)
def s762 : St := sL (sI s761 391 (fun _ => 0)) 391 (fun _ => 0)
def r763 : Rf := r762
def s763 : St := sI s762 391 (upd (s762.1 391) (0 : Int32).toNatClampNeg (vp_nar .char 115))
def r764 : Rf := r763
def s764 : St := sI s763 391 (upd (s763.1 391) (1 : Int32).toNatClampNeg (vp_nar .char 116))
def r765 : Rf := r764
def s765 : St := sI s764 391 (upd (s764.1 391) (2 : Int32).toNatClampNeg (vp_nar .char 114))
def r766 : Rf := r765
def s766 : St := sI s765 391 (upd (s765.1 391) (3 : Int32).toNatClampNeg (vp_nar .char 101))
def r767 : Rf := r766
def s767 : St := sI s766 391 (upd (s766.1 391) (4 : Int32).toNatClampNeg (vp_nar .char 110))
def r768 : Rf := r767
def s768 : St := sI s767 391 (upd (s767.1 391) (5 : Int32).toNatClampNeg (vp_nar .char 103))
def r769 : Rf := r768
def s769 : St := sI s768 391 (upd (s768.1 391) (6 : Int32).toNatClampNeg (vp_nar .char 116))
def r770 : Rf := r769
def s770 : St := sI s769 391 (upd (s769.1 391) (7 : Int32).toNatClampNeg (vp_nar .char 104))
def r771 : Rf := sR r770 324 (va_up (r770 324) 94 (some 391))
def s771 : St := s770
def r772 : Rf := sR r771 392 (fun _ => none)
def s772 : St := sL (sI s771 392 (fun _ => 0)) 392 (fun _ => 0)
def r773 : Rf := r772
def s773 : St := sI s772 392 (upd (s772.1 392) (0 : Int32).toNatClampNeg (vp_nar .char 114))
def r774 : Rf := r773
def s774 : St := sI s773 392 (upd (s773.1 392) (1 : Int32).toNatClampNeg (vp_nar .char 111))
def r775 : Rf := r774
def s775 : St := sI s774 392 (upd (s774.1 392) (2 : Int32).toNatClampNeg (vp_nar .char 111))
def r776 : Rf := r775
def s776 : St := sI s775 392 (upd (s775.1 392) (3 : Int32).toNatClampNeg (vp_nar .char 116))
def r777 : Rf := r776
def s777 : St := sI s776 392 (upd (s776.1 392) (4 : Int32).toNatClampNeg (vp_nar .char 101))
def r778 : Rf := r777
def s778 : St := sI s777 392 (upd (s777.1 392) (5 : Int32).toNatClampNeg (vp_nar .char 100))
def r779 : Rf := sR r778 324 (va_up (r778 324) 95 (some 392))
def s779 : St := s778
def r780 : Rf := sR r779 393 (fun _ => none)
def s780 : St := sL (sI s779 393 (fun _ => 0)) 393 (fun _ => 0)
def r781 : Rf := r780
def s781 : St := sI s780 393 (upd (s780.1 393) (0 : Int32).toNatClampNeg (vp_nar .char 110))
def r782 : Rf := r781
def s782 : St := sI s781 393 (upd (s781.1 393) (1 : Int32).toNatClampNeg (vp_nar .char 117))
def r783 : Rf := r782
def s783 : St := sI s782 393 (upd (s782.1 393) (2 : Int32).toNatClampNeg (vp_nar .char 109))
def r784 : Rf := r783
def s784 : St := sI s783 393 (upd (s783.1 393) (3 : Int32).toNatClampNeg (vp_nar .char 98))
def r785 : Rf := r784
def s785 : St := sI s784 393 (upd (s784.1 393) (4 : Int32).toNatClampNeg (vp_nar .char 101))
def r786 : Rf := r785
def s786 : St := sI s785 393 (upd (s785.1 393) (5 : Int32).toNatClampNeg (vp_nar .char 114))
def r787 : Rf := sR r786 324 (va_up (r786 324) 96 (some 393))
def s787 : St := s786
def r788 : Rf := sR r787 394 (fun _ => none)
def s788 : St := sL (sI s787 394 (fun _ => 0)) 394 (fun _ => 0)
def r789 : Rf := r788
def s789 : St := sI s788 394 (upd (s788.1 394) (0 : Int32).toNatClampNeg (vp_nar .char 107))
def r790 : Rf := r789
def s790 : St := sI s789 394 (upd (s789.1 394) (1 : Int32).toNatClampNeg (vp_nar .char 110))
def r791 : Rf := r790
def s791 : St := sI s790 394 (upd (s790.1 394) (2 : Int32).toNatClampNeg (vp_nar .char 111))
def r792 : Rf := r791
def s792 : St := sI s791 394 (upd (s791.1 394) (3 : Int32).toNatClampNeg (vp_nar .char 119))
def r793 : Rf := r792
def s793 : St := sI s792 394 (upd (s792.1 394) (4 : Int32).toNatClampNeg (vp_nar .char 115))
def r794 : Rf := sR r793 324 (va_up (r793 324) 97 (some 394))
def s794 : St := s793
def r795 : Rf := sR r794 395 (fun _ => none)
def s795 : St := sL (sI s794 395 (fun _ => 0)) 395 (fun _ => 0)
def r796 : Rf := r795
def s796 : St := sI s795 395 (upd (s795.1 395) (0 : Int32).toNatClampNeg (vp_nar .char 114))
def r797 : Rf := r796
def s797 : St := sI s796 395 (upd (s796.1 395) (1 : Int32).toNatClampNeg (vp_nar .char 101))
def r798 : Rf := r797
def s798 : St := sI s797 395 (upd (s797.1 395) (2 : Int32).toNatClampNeg (vp_nar .char 97))
def r799 : Rf := r798
def s799 : St := sI s798 395 (upd (s798.1 395) (3 : Int32).toNatClampNeg (vp_nar .char 100))
def r800 : Rf := r799
def s800 : St := sI s799 395 (upd (s799.1 395) (4 : Int32).toNatClampNeg (vp_nar .char 121))
def r801 : Rf := sR r800 324 (va_up (r800 324) 98 (some 395))
def s801 : St := s800
def r802 : Rf := sR r801 396 (fun _ => none)
def s802 : St := sL (sI s801 396 (fun _ => 0)) 396 (fun _ => 0)
def r803 : Rf := sR r802 324 (va_up (r802 324) 99 (some 396))
def s803 : St := s802
def r804 : Rf := sR r803 397 (fun _ => none)
def s804 : St := sL (sI s803 397 (fun _ => 0)) 397 (fun _ => 0)
def r805 : Rf := sR r804 324 (va_up (r804 324) 101 (some 397))
def s805 : St := s804
def r806 : Rf := sR r805 398 (fun _ => none)
def s806 : St := sL (sI s805 398 (fun _ => 0)) 398 (fun _ => 0)
def r807 : Rf := sR r806 324 (va_up (r806 324) 105 (some 398))
def s807 : St := s806
def r808 : Rf := sR r807 399 (fun _ => none)
def s808 : St := sL (sI s807 399 (fun _ => 0)) 399 (fun _ => 0)
def r809 : Rf := sR r808 324 (va_up (r808 324) 109 (some 399))
def s809 : St := s808
section EvK1
variable {l : Launch} {X : Cx}
set_option maxRecDepth 20000 in
theorem k61 (d : Nat) : T l X (d + 1) 61 [.ref 155] 156 166 r269 s269 (Ru r277 s277) := by
  refine T_of rfl ?_
  refine Ev_aload rfl rfl rfl ?_
  refine Ev_obj rfl rfl ?_
  refine Ev_aload rfl rfl rfl ?_
  refine Ev_const rfl ?_
  refine Ev_const rfl ?_
  refine Ev_multi 6 8 rfl (by decide) (by decide) (by decide) (by decide) ⟨by decide, by decide⟩ ?_
  refine Ev_st (ρ' := r270) (σ' := s270) rfl rfl ?_
  refine Ev_putR rfl rfl (fun _ => ⟨rfl, rfl⟩) (Or.inr ⟨rfl, rfl, rfl⟩) ?_
  refine Ev_st (ρ' := r271) (σ' := s271) rfl rfl ?_
  refine Ev_aload rfl rfl rfl ?_
  refine Ev_const rfl ?_
  refine Ev_newa rfl (by decide) rfl ⟨by decide, by decide⟩ ?_
  refine Ev_st (ρ' := r272) (σ' := s272) rfl rfl ?_
  refine Ev_putR rfl rfl (fun _ => ⟨rfl, rfl⟩) (Or.inr ⟨rfl, rfl, rfl⟩) ?_
  refine Ev_st (ρ' := r273) (σ' := s273) rfl rfl ?_
  refine Ev_aload rfl rfl rfl ?_
  refine Ev_const rfl ?_
  refine Ev_newa rfl (by decide) rfl ⟨by decide, by decide⟩ ?_
  refine Ev_st (ρ' := r274) (σ' := s274) rfl rfl ?_
  refine Ev_putR rfl rfl (fun _ => ⟨rfl, rfl⟩) (Or.inr ⟨rfl, rfl, rfl⟩) ?_
  refine Ev_st (ρ' := r275) (σ' := s275) rfl rfl ?_
  refine Ev_aload rfl rfl rfl ?_
  refine Ev_const rfl ?_
  refine Ev_newa rfl (by decide) rfl ⟨by decide, by decide⟩ ?_
  refine Ev_st (ρ' := r276) (σ' := s276) rfl rfl ?_
  refine Ev_putR rfl rfl (fun _ => ⟨rfl, rfl⟩) (Or.inr ⟨rfl, rfl, rfl⟩) ?_
  refine Ev_st (ρ' := r277) (σ' := s277) rfl rfl ?_
  exact Ev_return rfl rfl rfl ⟨rfl, rfl, rfl⟩
set_option maxRecDepth 20000 in
theorem k62 (d : Nat) : T l X (d + 1) 61 [.ref 166] 167 177 r279 s279 (Ru r287 s287) := by
  refine T_of rfl ?_
  refine Ev_aload rfl rfl rfl ?_
  refine Ev_obj rfl rfl ?_
  refine Ev_aload rfl rfl rfl ?_
  refine Ev_const rfl ?_
  refine Ev_const rfl ?_
  refine Ev_multi 6 8 rfl (by decide) (by decide) (by decide) (by decide) ⟨by decide, by decide⟩ ?_
  refine Ev_st (ρ' := r280) (σ' := s280) rfl rfl ?_
  refine Ev_putR rfl rfl (fun _ => ⟨rfl, rfl⟩) (Or.inr ⟨rfl, rfl, rfl⟩) ?_
  refine Ev_st (ρ' := r281) (σ' := s281) rfl rfl ?_
  refine Ev_aload rfl rfl rfl ?_
  refine Ev_const rfl ?_
  refine Ev_newa rfl (by decide) rfl ⟨by decide, by decide⟩ ?_
  refine Ev_st (ρ' := r282) (σ' := s282) rfl rfl ?_
  refine Ev_putR rfl rfl (fun _ => ⟨rfl, rfl⟩) (Or.inr ⟨rfl, rfl, rfl⟩) ?_
  refine Ev_st (ρ' := r283) (σ' := s283) rfl rfl ?_
  refine Ev_aload rfl rfl rfl ?_
  refine Ev_const rfl ?_
  refine Ev_newa rfl (by decide) rfl ⟨by decide, by decide⟩ ?_
  refine Ev_st (ρ' := r284) (σ' := s284) rfl rfl ?_
  refine Ev_putR rfl rfl (fun _ => ⟨rfl, rfl⟩) (Or.inr ⟨rfl, rfl, rfl⟩) ?_
  refine Ev_st (ρ' := r285) (σ' := s285) rfl rfl ?_
  refine Ev_aload rfl rfl rfl ?_
  refine Ev_const rfl ?_
  refine Ev_newa rfl (by decide) rfl ⟨by decide, by decide⟩ ?_
  refine Ev_st (ρ' := r286) (σ' := s286) rfl rfl ?_
  refine Ev_putR rfl rfl (fun _ => ⟨rfl, rfl⟩) (Or.inr ⟨rfl, rfl, rfl⟩) ?_
  refine Ev_st (ρ' := r287) (σ' := s287) rfl rfl ?_
  exact Ev_return rfl rfl rfl ⟨rfl, rfl, rfl⟩
set_option maxRecDepth 20000 in
theorem k63 (d : Nat) : T l X (d + 1) 61 [.ref 177] 178 188 r289 s289 (Ru r297 s297) := by
  refine T_of rfl ?_
  refine Ev_aload rfl rfl rfl ?_
  refine Ev_obj rfl rfl ?_
  refine Ev_aload rfl rfl rfl ?_
  refine Ev_const rfl ?_
  refine Ev_const rfl ?_
  refine Ev_multi 6 8 rfl (by decide) (by decide) (by decide) (by decide) ⟨by decide, by decide⟩ ?_
  refine Ev_st (ρ' := r290) (σ' := s290) rfl rfl ?_
  refine Ev_putR rfl rfl (fun _ => ⟨rfl, rfl⟩) (Or.inr ⟨rfl, rfl, rfl⟩) ?_
  refine Ev_st (ρ' := r291) (σ' := s291) rfl rfl ?_
  refine Ev_aload rfl rfl rfl ?_
  refine Ev_const rfl ?_
  refine Ev_newa rfl (by decide) rfl ⟨by decide, by decide⟩ ?_
  refine Ev_st (ρ' := r292) (σ' := s292) rfl rfl ?_
  refine Ev_putR rfl rfl (fun _ => ⟨rfl, rfl⟩) (Or.inr ⟨rfl, rfl, rfl⟩) ?_
  refine Ev_st (ρ' := r293) (σ' := s293) rfl rfl ?_
  refine Ev_aload rfl rfl rfl ?_
  refine Ev_const rfl ?_
  refine Ev_newa rfl (by decide) rfl ⟨by decide, by decide⟩ ?_
  refine Ev_st (ρ' := r294) (σ' := s294) rfl rfl ?_
  refine Ev_putR rfl rfl (fun _ => ⟨rfl, rfl⟩) (Or.inr ⟨rfl, rfl, rfl⟩) ?_
  refine Ev_st (ρ' := r295) (σ' := s295) rfl rfl ?_
  refine Ev_aload rfl rfl rfl ?_
  refine Ev_const rfl ?_
  refine Ev_newa rfl (by decide) rfl ⟨by decide, by decide⟩ ?_
  refine Ev_st (ρ' := r296) (σ' := s296) rfl rfl ?_
  refine Ev_putR rfl rfl (fun _ => ⟨rfl, rfl⟩) (Or.inr ⟨rfl, rfl, rfl⟩) ?_
  refine Ev_st (ρ' := r297) (σ' := s297) rfl rfl ?_
  exact Ev_return rfl rfl rfl ⟨rfl, rfl, rfl⟩
set_option maxRecDepth 20000 in
theorem k64 (d : Nat) : T l X (d + 1) 61 [.ref 188] 189 199 r299 s299 (Ru r307 s307) := by
  refine T_of rfl ?_
  refine Ev_aload rfl rfl rfl ?_
  refine Ev_obj rfl rfl ?_
  refine Ev_aload rfl rfl rfl ?_
  refine Ev_const rfl ?_
  refine Ev_const rfl ?_
  refine Ev_multi 6 8 rfl (by decide) (by decide) (by decide) (by decide) ⟨by decide, by decide⟩ ?_
  refine Ev_st (ρ' := r300) (σ' := s300) rfl rfl ?_
  refine Ev_putR rfl rfl (fun _ => ⟨rfl, rfl⟩) (Or.inr ⟨rfl, rfl, rfl⟩) ?_
  refine Ev_st (ρ' := r301) (σ' := s301) rfl rfl ?_
  refine Ev_aload rfl rfl rfl ?_
  refine Ev_const rfl ?_
  refine Ev_newa rfl (by decide) rfl ⟨by decide, by decide⟩ ?_
  refine Ev_st (ρ' := r302) (σ' := s302) rfl rfl ?_
  refine Ev_putR rfl rfl (fun _ => ⟨rfl, rfl⟩) (Or.inr ⟨rfl, rfl, rfl⟩) ?_
  refine Ev_st (ρ' := r303) (σ' := s303) rfl rfl ?_
  refine Ev_aload rfl rfl rfl ?_
  refine Ev_const rfl ?_
  refine Ev_newa rfl (by decide) rfl ⟨by decide, by decide⟩ ?_
  refine Ev_st (ρ' := r304) (σ' := s304) rfl rfl ?_
  refine Ev_putR rfl rfl (fun _ => ⟨rfl, rfl⟩) (Or.inr ⟨rfl, rfl, rfl⟩) ?_
  refine Ev_st (ρ' := r305) (σ' := s305) rfl rfl ?_
  refine Ev_aload rfl rfl rfl ?_
  refine Ev_const rfl ?_
  refine Ev_newa rfl (by decide) rfl ⟨by decide, by decide⟩ ?_
  refine Ev_st (ρ' := r306) (σ' := s306) rfl rfl ?_
  refine Ev_putR rfl rfl (fun _ => ⟨rfl, rfl⟩) (Or.inr ⟨rfl, rfl, rfl⟩) ?_
  refine Ev_st (ρ' := r307) (σ' := s307) rfl rfl ?_
  exact Ev_return rfl rfl rfl ⟨rfl, rfl, rfl⟩
set_option maxRecDepth 20000 in
theorem k65 (d : Nat) : T l X (d + 1) 61 [.ref 199] 200 210 r309 s309 (Ru r317 s317) := by
  refine T_of rfl ?_
  refine Ev_aload rfl rfl rfl ?_
  refine Ev_obj rfl rfl ?_
  refine Ev_aload rfl rfl rfl ?_
  refine Ev_const rfl ?_
  refine Ev_const rfl ?_
  refine Ev_multi 6 8 rfl (by decide) (by decide) (by decide) (by decide) ⟨by decide, by decide⟩ ?_
  refine Ev_st (ρ' := r310) (σ' := s310) rfl rfl ?_
  refine Ev_putR rfl rfl (fun _ => ⟨rfl, rfl⟩) (Or.inr ⟨rfl, rfl, rfl⟩) ?_
  refine Ev_st (ρ' := r311) (σ' := s311) rfl rfl ?_
  refine Ev_aload rfl rfl rfl ?_
  refine Ev_const rfl ?_
  refine Ev_newa rfl (by decide) rfl ⟨by decide, by decide⟩ ?_
  refine Ev_st (ρ' := r312) (σ' := s312) rfl rfl ?_
  refine Ev_putR rfl rfl (fun _ => ⟨rfl, rfl⟩) (Or.inr ⟨rfl, rfl, rfl⟩) ?_
  refine Ev_st (ρ' := r313) (σ' := s313) rfl rfl ?_
  refine Ev_aload rfl rfl rfl ?_
  refine Ev_const rfl ?_
  refine Ev_newa rfl (by decide) rfl ⟨by decide, by decide⟩ ?_
  refine Ev_st (ρ' := r314) (σ' := s314) rfl rfl ?_
  refine Ev_putR rfl rfl (fun _ => ⟨rfl, rfl⟩) (Or.inr ⟨rfl, rfl, rfl⟩) ?_
  refine Ev_st (ρ' := r315) (σ' := s315) rfl rfl ?_
  refine Ev_aload rfl rfl rfl ?_
  refine Ev_const rfl ?_
  refine Ev_newa rfl (by decide) rfl ⟨by decide, by decide⟩ ?_
  refine Ev_st (ρ' := r316) (σ' := s316) rfl rfl ?_
  refine Ev_putR rfl rfl (fun _ => ⟨rfl, rfl⟩) (Or.inr ⟨rfl, rfl, rfl⟩) ?_
  refine Ev_st (ρ' := r317) (σ' := s317) rfl rfl ?_
  exact Ev_return rfl rfl rfl ⟨rfl, rfl, rfl⟩
set_option maxRecDepth 20000 in
theorem k66 (d : Nat) : T l X (d + 1) 61 [.ref 210] 211 221 r319 s319 (Ru r327 s327) := by
  refine T_of rfl ?_
  refine Ev_aload rfl rfl rfl ?_
  refine Ev_obj rfl rfl ?_
  refine Ev_aload rfl rfl rfl ?_
  refine Ev_const rfl ?_
  refine Ev_const rfl ?_
  refine Ev_multi 6 8 rfl (by decide) (by decide) (by decide) (by decide) ⟨by decide, by decide⟩ ?_
  refine Ev_st (ρ' := r320) (σ' := s320) rfl rfl ?_
  refine Ev_putR rfl rfl (fun _ => ⟨rfl, rfl⟩) (Or.inr ⟨rfl, rfl, rfl⟩) ?_
  refine Ev_st (ρ' := r321) (σ' := s321) rfl rfl ?_
  refine Ev_aload rfl rfl rfl ?_
  refine Ev_const rfl ?_
  refine Ev_newa rfl (by decide) rfl ⟨by decide, by decide⟩ ?_
  refine Ev_st (ρ' := r322) (σ' := s322) rfl rfl ?_
  refine Ev_putR rfl rfl (fun _ => ⟨rfl, rfl⟩) (Or.inr ⟨rfl, rfl, rfl⟩) ?_
  refine Ev_st (ρ' := r323) (σ' := s323) rfl rfl ?_
  refine Ev_aload rfl rfl rfl ?_
  refine Ev_const rfl ?_
  refine Ev_newa rfl (by decide) rfl ⟨by decide, by decide⟩ ?_
  refine Ev_st (ρ' := r324) (σ' := s324) rfl rfl ?_
  refine Ev_putR rfl rfl (fun _ => ⟨rfl, rfl⟩) (Or.inr ⟨rfl, rfl, rfl⟩) ?_
  refine Ev_st (ρ' := r325) (σ' := s325) rfl rfl ?_
  refine Ev_aload rfl rfl rfl ?_
  refine Ev_const rfl ?_
  refine Ev_newa rfl (by decide) rfl ⟨by decide, by decide⟩ ?_
  refine Ev_st (ρ' := r326) (σ' := s326) rfl rfl ?_
  refine Ev_putR rfl rfl (fun _ => ⟨rfl, rfl⟩) (Or.inr ⟨rfl, rfl, rfl⟩) ?_
  refine Ev_st (ρ' := r327) (σ' := s327) rfl rfl ?_
  exact Ev_return rfl rfl rfl ⟨rfl, rfl, rfl⟩
set_option maxRecDepth 20000 in
theorem k67 (d : Nat) : T l X (d + 1) 61 [.ref 221] 222 232 r329 s329 (Ru r337 s337) := by
  refine T_of rfl ?_
  refine Ev_aload rfl rfl rfl ?_
  refine Ev_obj rfl rfl ?_
  refine Ev_aload rfl rfl rfl ?_
  refine Ev_const rfl ?_
  refine Ev_const rfl ?_
  refine Ev_multi 6 8 rfl (by decide) (by decide) (by decide) (by decide) ⟨by decide, by decide⟩ ?_
  refine Ev_st (ρ' := r330) (σ' := s330) rfl rfl ?_
  refine Ev_putR rfl rfl (fun _ => ⟨rfl, rfl⟩) (Or.inr ⟨rfl, rfl, rfl⟩) ?_
  refine Ev_st (ρ' := r331) (σ' := s331) rfl rfl ?_
  refine Ev_aload rfl rfl rfl ?_
  refine Ev_const rfl ?_
  refine Ev_newa rfl (by decide) rfl ⟨by decide, by decide⟩ ?_
  refine Ev_st (ρ' := r332) (σ' := s332) rfl rfl ?_
  refine Ev_putR rfl rfl (fun _ => ⟨rfl, rfl⟩) (Or.inr ⟨rfl, rfl, rfl⟩) ?_
  refine Ev_st (ρ' := r333) (σ' := s333) rfl rfl ?_
  refine Ev_aload rfl rfl rfl ?_
  refine Ev_const rfl ?_
  refine Ev_newa rfl (by decide) rfl ⟨by decide, by decide⟩ ?_
  refine Ev_st (ρ' := r334) (σ' := s334) rfl rfl ?_
  refine Ev_putR rfl rfl (fun _ => ⟨rfl, rfl⟩) (Or.inr ⟨rfl, rfl, rfl⟩) ?_
  refine Ev_st (ρ' := r335) (σ' := s335) rfl rfl ?_
  refine Ev_aload rfl rfl rfl ?_
  refine Ev_const rfl ?_
  refine Ev_newa rfl (by decide) rfl ⟨by decide, by decide⟩ ?_
  refine Ev_st (ρ' := r336) (σ' := s336) rfl rfl ?_
  refine Ev_putR rfl rfl (fun _ => ⟨rfl, rfl⟩) (Or.inr ⟨rfl, rfl, rfl⟩) ?_
  refine Ev_st (ρ' := r337) (σ' := s337) rfl rfl ?_
  exact Ev_return rfl rfl rfl ⟨rfl, rfl, rfl⟩
set_option maxRecDepth 20000 in
theorem k68 (d : Nat) : T l X (d + 1) 61 [.ref 232] 233 243 r339 s339 (Ru r347 s347) := by
  refine T_of rfl ?_
  refine Ev_aload rfl rfl rfl ?_
  refine Ev_obj rfl rfl ?_
  refine Ev_aload rfl rfl rfl ?_
  refine Ev_const rfl ?_
  refine Ev_const rfl ?_
  refine Ev_multi 6 8 rfl (by decide) (by decide) (by decide) (by decide) ⟨by decide, by decide⟩ ?_
  refine Ev_st (ρ' := r340) (σ' := s340) rfl rfl ?_
  refine Ev_putR rfl rfl (fun _ => ⟨rfl, rfl⟩) (Or.inr ⟨rfl, rfl, rfl⟩) ?_
  refine Ev_st (ρ' := r341) (σ' := s341) rfl rfl ?_
  refine Ev_aload rfl rfl rfl ?_
  refine Ev_const rfl ?_
  refine Ev_newa rfl (by decide) rfl ⟨by decide, by decide⟩ ?_
  refine Ev_st (ρ' := r342) (σ' := s342) rfl rfl ?_
  refine Ev_putR rfl rfl (fun _ => ⟨rfl, rfl⟩) (Or.inr ⟨rfl, rfl, rfl⟩) ?_
  refine Ev_st (ρ' := r343) (σ' := s343) rfl rfl ?_
  refine Ev_aload rfl rfl rfl ?_
  refine Ev_const rfl ?_
  refine Ev_newa rfl (by decide) rfl ⟨by decide, by decide⟩ ?_
  refine Ev_st (ρ' := r344) (σ' := s344) rfl rfl ?_
  refine Ev_putR rfl rfl (fun _ => ⟨rfl, rfl⟩) (Or.inr ⟨rfl, rfl, rfl⟩) ?_
  refine Ev_st (ρ' := r345) (σ' := s345) rfl rfl ?_
  refine Ev_aload rfl rfl rfl ?_
  refine Ev_const rfl ?_
  refine Ev_newa rfl (by decide) rfl ⟨by decide, by decide⟩ ?_
  refine Ev_st (ρ' := r346) (σ' := s346) rfl rfl ?_
  refine Ev_putR rfl rfl (fun _ => ⟨rfl, rfl⟩) (Or.inr ⟨rfl, rfl, rfl⟩) ?_
  refine Ev_st (ρ' := r347) (σ' := s347) rfl rfl ?_
  exact Ev_return rfl rfl rfl ⟨rfl, rfl, rfl⟩
set_option maxRecDepth 20000 in
theorem k69 (d : Nat) : T l X (d + 1) 61 [.ref 243] 244 254 r349 s349 (Ru r357 s357) := by
  refine T_of rfl ?_
  refine Ev_aload rfl rfl rfl ?_
  refine Ev_obj rfl rfl ?_
  refine Ev_aload rfl rfl rfl ?_
  refine Ev_const rfl ?_
  refine Ev_const rfl ?_
  refine Ev_multi 6 8 rfl (by decide) (by decide) (by decide) (by decide) ⟨by decide, by decide⟩ ?_
  refine Ev_st (ρ' := r350) (σ' := s350) rfl rfl ?_
  refine Ev_putR rfl rfl (fun _ => ⟨rfl, rfl⟩) (Or.inr ⟨rfl, rfl, rfl⟩) ?_
  refine Ev_st (ρ' := r351) (σ' := s351) rfl rfl ?_
  refine Ev_aload rfl rfl rfl ?_
  refine Ev_const rfl ?_
  refine Ev_newa rfl (by decide) rfl ⟨by decide, by decide⟩ ?_
  refine Ev_st (ρ' := r352) (σ' := s352) rfl rfl ?_
  refine Ev_putR rfl rfl (fun _ => ⟨rfl, rfl⟩) (Or.inr ⟨rfl, rfl, rfl⟩) ?_
  refine Ev_st (ρ' := r353) (σ' := s353) rfl rfl ?_
  refine Ev_aload rfl rfl rfl ?_
  refine Ev_const rfl ?_
  refine Ev_newa rfl (by decide) rfl ⟨by decide, by decide⟩ ?_
  refine Ev_st (ρ' := r354) (σ' := s354) rfl rfl ?_
  refine Ev_putR rfl rfl (fun _ => ⟨rfl, rfl⟩) (Or.inr ⟨rfl, rfl, rfl⟩) ?_
  refine Ev_st (ρ' := r355) (σ' := s355) rfl rfl ?_
  refine Ev_aload rfl rfl rfl ?_
  refine Ev_const rfl ?_
  refine Ev_newa rfl (by decide) rfl ⟨by decide, by decide⟩ ?_
  refine Ev_st (ρ' := r356) (σ' := s356) rfl rfl ?_
  refine Ev_putR rfl rfl (fun _ => ⟨rfl, rfl⟩) (Or.inr ⟨rfl, rfl, rfl⟩) ?_
  refine Ev_st (ρ' := r357) (σ' := s357) rfl rfl ?_
  exact Ev_return rfl rfl rfl ⟨rfl, rfl, rfl⟩
set_option maxRecDepth 20000 in
theorem k70 (d : Nat) : T l X (d + 1) 61 [.ref 254] 255 265 r359 s359 (Ru r367 s367) := by
  refine T_of rfl ?_
  refine Ev_aload rfl rfl rfl ?_
  refine Ev_obj rfl rfl ?_
  refine Ev_aload rfl rfl rfl ?_
  refine Ev_const rfl ?_
  refine Ev_const rfl ?_
  refine Ev_multi 6 8 rfl (by decide) (by decide) (by decide) (by decide) ⟨by decide, by decide⟩ ?_
  refine Ev_st (ρ' := r360) (σ' := s360) rfl rfl ?_
  refine Ev_putR rfl rfl (fun _ => ⟨rfl, rfl⟩) (Or.inr ⟨rfl, rfl, rfl⟩) ?_
  refine Ev_st (ρ' := r361) (σ' := s361) rfl rfl ?_
  refine Ev_aload rfl rfl rfl ?_
  refine Ev_const rfl ?_
  refine Ev_newa rfl (by decide) rfl ⟨by decide, by decide⟩ ?_
  refine Ev_st (ρ' := r362) (σ' := s362) rfl rfl ?_
  refine Ev_putR rfl rfl (fun _ => ⟨rfl, rfl⟩) (Or.inr ⟨rfl, rfl, rfl⟩) ?_
  refine Ev_st (ρ' := r363) (σ' := s363) rfl rfl ?_
  refine Ev_aload rfl rfl rfl ?_
  refine Ev_const rfl ?_
  refine Ev_newa rfl (by decide) rfl ⟨by decide, by decide⟩ ?_
  refine Ev_st (ρ' := r364) (σ' := s364) rfl rfl ?_
  refine Ev_putR rfl rfl (fun _ => ⟨rfl, rfl⟩) (Or.inr ⟨rfl, rfl, rfl⟩) ?_
  refine Ev_st (ρ' := r365) (σ' := s365) rfl rfl ?_
  refine Ev_aload rfl rfl rfl ?_
  refine Ev_const rfl ?_
  refine Ev_newa rfl (by decide) rfl ⟨by decide, by decide⟩ ?_
  refine Ev_st (ρ' := r366) (σ' := s366) rfl rfl ?_
  refine Ev_putR rfl rfl (fun _ => ⟨rfl, rfl⟩) (Or.inr ⟨rfl, rfl, rfl⟩) ?_
  refine Ev_st (ρ' := r367) (σ' := s367) rfl rfl ?_
  exact Ev_return rfl rfl rfl ⟨rfl, rfl, rfl⟩
set_option maxRecDepth 20000 in
theorem k71 (d : Nat) : T l X (d + 2) 74 [.ref 43] 44 265 r166 s166 (Ru r368 s368) := by
  refine T_of rfl ?_
  refine Ev_aload rfl rfl rfl ?_
  refine Ev_obj rfl rfl ?_
  refine Ev_aload rfl rfl rfl ?_
  refine Ev_const rfl ?_
  refine Ev_anew rfl (by decide) rfl ⟨by decide, by decide⟩ ?_
  refine Ev_st (ρ' := r167) (σ' := s167) rfl rfl ?_
  refine Ev_putR rfl rfl (fun _ => ⟨rfl, rfl⟩) (Or.inr ⟨rfl, rfl, rfl⟩) ?_
  refine Ev_st (ρ' := r168) (σ' := s168) rfl rfl ?_
  refine Ev_const rfl ?_
  refine Ev_istore rfl ?_
  refine Ev_iload rfl rfl ?_
  refine Ev_const rfl ?_
  refine Ev_icmp_ge rfl (fun h => absurd h (by decide)) (fun _ => ?_)
  refine Ev_aload rfl rfl rfl ?_
  refine Ev_getR (k' := 44) rfl rfl (by decide +kernel) ?_
  refine Ev_iload rfl rfl ?_
  refine Ev_new rfl rfl ⟨by decide, by decide⟩ ?_
  refine Ev_st (ρ' := r169) (σ' := s169) rfl rfl ?_
  refine Ev_dup rfl (fun _ q => nomatch q) ?_
  refine Ev_callI rfl rfl rfl rfl ⟨by decide, by decide, by decide⟩ (k51 d) ?_
  rintro v ρ' σ' ⟨rfl, rfl, rfl⟩
  refine Ev_aast rfl rfl rfl (by unfold vp_in; decide) ?_
  refine Ev_st (ρ' := r178) (σ' := s178) rfl rfl ?_
  refine Ev_iincE (v := 1) rfl rfl (by decide) ?_
  refine Ev_goto rfl ?_
  refine Ev_iload rfl rfl ?_
  refine Ev_const rfl ?_
  refine Ev_icmp_ge rfl (fun h => absurd h (by decide)) (fun _ => ?_)
  refine Ev_aload rfl rfl rfl ?_
  refine Ev_getR (k' := 44) rfl rfl (by decide +kernel) ?_
  refine Ev_iload rfl rfl ?_
  refine Ev_new rfl rfl ⟨by decide, by decide⟩ ?_
  refine Ev_st (ρ' := r179) (σ' := s179) rfl rfl ?_
  refine Ev_dup rfl (fun _ q => nomatch q) ?_
  refine Ev_callI rfl rfl rfl rfl ⟨by decide, by decide, by decide⟩ (k52 d) ?_
  rintro v ρ' σ' ⟨rfl, rfl, rfl⟩
  refine Ev_aast rfl rfl rfl (by unfold vp_in; decide) ?_
  refine Ev_st (ρ' := r188) (σ' := s188) rfl rfl ?_
  refine Ev_iincE (v := 2) rfl rfl (by decide) ?_
  refine Ev_goto rfl ?_
  refine Ev_iload rfl rfl ?_
  refine Ev_const rfl ?_
  refine Ev_icmp_ge rfl (fun h => absurd h (by decide)) (fun _ => ?_)
  refine Ev_aload rfl rfl rfl ?_
  refine Ev_getR (k' := 44) rfl rfl (by decide +kernel) ?_
  refine Ev_iload rfl rfl ?_
  refine Ev_new rfl rfl ⟨by decide, by decide⟩ ?_
  refine Ev_st (ρ' := r189) (σ' := s189) rfl rfl ?_
  refine Ev_dup rfl (fun _ q => nomatch q) ?_
  refine Ev_callI rfl rfl rfl rfl ⟨by decide, by decide, by decide⟩ (k53 d) ?_
  rintro v ρ' σ' ⟨rfl, rfl, rfl⟩
  refine Ev_aast rfl rfl rfl (by unfold vp_in; decide) ?_
  refine Ev_st (ρ' := r198) (σ' := s198) rfl rfl ?_
  refine Ev_iincE (v := 3) rfl rfl (by decide) ?_
  refine Ev_goto rfl ?_
  refine Ev_iload rfl rfl ?_
  refine Ev_const rfl ?_
  refine Ev_icmp_ge rfl (fun h => absurd h (by decide)) (fun _ => ?_)
  refine Ev_aload rfl rfl rfl ?_
  refine Ev_getR (k' := 44) rfl rfl (by decide +kernel) ?_
  refine Ev_iload rfl rfl ?_
  refine Ev_new rfl rfl ⟨by decide, by decide⟩ ?_
  refine Ev_st (ρ' := r199) (σ' := s199) rfl rfl ?_
  refine Ev_dup rfl (fun _ q => nomatch q) ?_
  refine Ev_callI rfl rfl rfl rfl ⟨by decide, by decide, by decide⟩ (k54 d) ?_
  rintro v ρ' σ' ⟨rfl, rfl, rfl⟩
  refine Ev_aast rfl rfl rfl (by unfold vp_in; decide) ?_
  refine Ev_st (ρ' := r208) (σ' := s208) rfl rfl ?_
  refine Ev_iincE (v := 4) rfl rfl (by decide) ?_
  refine Ev_goto rfl ?_
  refine Ev_iload rfl rfl ?_
  refine Ev_const rfl ?_
  refine Ev_icmp_ge rfl (fun h => absurd h (by decide)) (fun _ => ?_)
  refine Ev_aload rfl rfl rfl ?_
  refine Ev_getR (k' := 44) rfl rfl (by decide +kernel) ?_
  refine Ev_iload rfl rfl ?_
  refine Ev_new rfl rfl ⟨by decide, by decide⟩ ?_
  refine Ev_st (ρ' := r209) (σ' := s209) rfl rfl ?_
  refine Ev_dup rfl (fun _ q => nomatch q) ?_
  refine Ev_callI rfl rfl rfl rfl ⟨by decide, by decide, by decide⟩ (k55 d) ?_
  rintro v ρ' σ' ⟨rfl, rfl, rfl⟩
  refine Ev_aast rfl rfl rfl (by unfold vp_in; decide) ?_
  refine Ev_st (ρ' := r218) (σ' := s218) rfl rfl ?_
  refine Ev_iincE (v := 5) rfl rfl (by decide) ?_
  refine Ev_goto rfl ?_
  refine Ev_iload rfl rfl ?_
  refine Ev_const rfl ?_
  refine Ev_icmp_ge rfl (fun h => absurd h (by decide)) (fun _ => ?_)
  refine Ev_aload rfl rfl rfl ?_
  refine Ev_getR (k' := 44) rfl rfl (by decide +kernel) ?_
  refine Ev_iload rfl rfl ?_
  refine Ev_new rfl rfl ⟨by decide, by decide⟩ ?_
  refine Ev_st (ρ' := r219) (σ' := s219) rfl rfl ?_
  refine Ev_dup rfl (fun _ q => nomatch q) ?_
  refine Ev_callI rfl rfl rfl rfl ⟨by decide, by decide, by decide⟩ (k56 d) ?_
  rintro v ρ' σ' ⟨rfl, rfl, rfl⟩
  refine Ev_aast rfl rfl rfl (by unfold vp_in; decide) ?_
  refine Ev_st (ρ' := r228) (σ' := s228) rfl rfl ?_
  refine Ev_iincE (v := 6) rfl rfl (by decide) ?_
  refine Ev_goto rfl ?_
  refine Ev_iload rfl rfl ?_
  refine Ev_const rfl ?_
  refine Ev_icmp_ge rfl (fun h => absurd h (by decide)) (fun _ => ?_)
  refine Ev_aload rfl rfl rfl ?_
  refine Ev_getR (k' := 44) rfl rfl (by decide +kernel) ?_
  refine Ev_iload rfl rfl ?_
  refine Ev_new rfl rfl ⟨by decide, by decide⟩ ?_
  refine Ev_st (ρ' := r229) (σ' := s229) rfl rfl ?_
  refine Ev_dup rfl (fun _ q => nomatch q) ?_
  refine Ev_callI rfl rfl rfl rfl ⟨by decide, by decide, by decide⟩ (k57 d) ?_
  rintro v ρ' σ' ⟨rfl, rfl, rfl⟩
  refine Ev_aast rfl rfl rfl (by unfold vp_in; decide) ?_
  refine Ev_st (ρ' := r238) (σ' := s238) rfl rfl ?_
  refine Ev_iincE (v := 7) rfl rfl (by decide) ?_
  refine Ev_goto rfl ?_
  refine Ev_iload rfl rfl ?_
  refine Ev_const rfl ?_
  refine Ev_icmp_ge rfl (fun h => absurd h (by decide)) (fun _ => ?_)
  refine Ev_aload rfl rfl rfl ?_
  refine Ev_getR (k' := 44) rfl rfl (by decide +kernel) ?_
  refine Ev_iload rfl rfl ?_
  refine Ev_new rfl rfl ⟨by decide, by decide⟩ ?_
  refine Ev_st (ρ' := r239) (σ' := s239) rfl rfl ?_
  refine Ev_dup rfl (fun _ q => nomatch q) ?_
  refine Ev_callI rfl rfl rfl rfl ⟨by decide, by decide, by decide⟩ (k58 d) ?_
  rintro v ρ' σ' ⟨rfl, rfl, rfl⟩
  refine Ev_aast rfl rfl rfl (by unfold vp_in; decide) ?_
  refine Ev_st (ρ' := r248) (σ' := s248) rfl rfl ?_
  refine Ev_iincE (v := 8) rfl rfl (by decide) ?_
  refine Ev_goto rfl ?_
  refine Ev_iload rfl rfl ?_
  refine Ev_const rfl ?_
  refine Ev_icmp_ge rfl (fun h => absurd h (by decide)) (fun _ => ?_)
  refine Ev_aload rfl rfl rfl ?_
  refine Ev_getR (k' := 44) rfl rfl (by decide +kernel) ?_
  refine Ev_iload rfl rfl ?_
  refine Ev_new rfl rfl ⟨by decide, by decide⟩ ?_
  refine Ev_st (ρ' := r249) (σ' := s249) rfl rfl ?_
  refine Ev_dup rfl (fun _ q => nomatch q) ?_
  refine Ev_callI rfl rfl rfl rfl ⟨by decide, by decide, by decide⟩ (k59 d) ?_
  rintro v ρ' σ' ⟨rfl, rfl, rfl⟩
  refine Ev_aast rfl rfl rfl (by unfold vp_in; decide) ?_
  refine Ev_st (ρ' := r258) (σ' := s258) rfl rfl ?_
  refine Ev_iincE (v := 9) rfl rfl (by decide) ?_
  refine Ev_goto rfl ?_
  refine Ev_iload rfl rfl ?_
  refine Ev_const rfl ?_
  refine Ev_icmp_ge rfl (fun h => absurd h (by decide)) (fun _ => ?_)
  refine Ev_aload rfl rfl rfl ?_
  refine Ev_getR (k' := 44) rfl rfl (by decide +kernel) ?_
  refine Ev_iload rfl rfl ?_
  refine Ev_new rfl rfl ⟨by decide, by decide⟩ ?_
  refine Ev_st (ρ' := r259) (σ' := s259) rfl rfl ?_
  refine Ev_dup rfl (fun _ q => nomatch q) ?_
  refine Ev_callI rfl rfl rfl rfl ⟨by decide, by decide, by decide⟩ (k60 d) ?_
  rintro v ρ' σ' ⟨rfl, rfl, rfl⟩
  refine Ev_aast rfl rfl rfl (by unfold vp_in; decide) ?_
  refine Ev_st (ρ' := r268) (σ' := s268) rfl rfl ?_
  refine Ev_iincE (v := 10) rfl rfl (by decide) ?_
  refine Ev_goto rfl ?_
  refine Ev_iload rfl rfl ?_
  refine Ev_const rfl ?_
  refine Ev_icmp_ge rfl (fun h => absurd h (by decide)) (fun _ => ?_)
  refine Ev_aload rfl rfl rfl ?_
  refine Ev_getR (k' := 44) rfl rfl (by decide +kernel) ?_
  refine Ev_iload rfl rfl ?_
  refine Ev_new rfl rfl ⟨by decide, by decide⟩ ?_
  refine Ev_st (ρ' := r269) (σ' := s269) rfl rfl ?_
  refine Ev_dup rfl (fun _ q => nomatch q) ?_
  refine Ev_callI rfl rfl rfl rfl ⟨by decide, by decide, by decide⟩ (k61 d) ?_
  rintro v ρ' σ' ⟨rfl, rfl, rfl⟩
  refine Ev_aast rfl rfl rfl (by unfold vp_in; decide) ?_
  refine Ev_st (ρ' := r278) (σ' := s278) rfl rfl ?_
  refine Ev_iincE (v := 11) rfl rfl (by decide) ?_
  refine Ev_goto rfl ?_
  refine Ev_iload rfl rfl ?_
  refine Ev_const rfl ?_
  refine Ev_icmp_ge rfl (fun h => absurd h (by decide)) (fun _ => ?_)
  refine Ev_aload rfl rfl rfl ?_
  refine Ev_getR (k' := 44) rfl rfl (by decide +kernel) ?_
  refine Ev_iload rfl rfl ?_
  refine Ev_new rfl rfl ⟨by decide, by decide⟩ ?_
  refine Ev_st (ρ' := r279) (σ' := s279) rfl rfl ?_
  refine Ev_dup rfl (fun _ q => nomatch q) ?_
  refine Ev_callI rfl rfl rfl rfl ⟨by decide, by decide, by decide⟩ (k62 d) ?_
  rintro v ρ' σ' ⟨rfl, rfl, rfl⟩
  refine Ev_aast rfl rfl rfl (by unfold vp_in; decide) ?_
  refine Ev_st (ρ' := r288) (σ' := s288) rfl rfl ?_
  refine Ev_iincE (v := 12) rfl rfl (by decide) ?_
  refine Ev_goto rfl ?_
  refine Ev_iload rfl rfl ?_
  refine Ev_const rfl ?_
  refine Ev_icmp_ge rfl (fun h => absurd h (by decide)) (fun _ => ?_)
  refine Ev_aload rfl rfl rfl ?_
  refine Ev_getR (k' := 44) rfl rfl (by decide +kernel) ?_
  refine Ev_iload rfl rfl ?_
  refine Ev_new rfl rfl ⟨by decide, by decide⟩ ?_
  refine Ev_st (ρ' := r289) (σ' := s289) rfl rfl ?_
  refine Ev_dup rfl (fun _ q => nomatch q) ?_
  refine Ev_callI rfl rfl rfl rfl ⟨by decide, by decide, by decide⟩ (k63 d) ?_
  rintro v ρ' σ' ⟨rfl, rfl, rfl⟩
  refine Ev_aast rfl rfl rfl (by unfold vp_in; decide) ?_
  refine Ev_st (ρ' := r298) (σ' := s298) rfl rfl ?_
  refine Ev_iincE (v := 13) rfl rfl (by decide) ?_
  refine Ev_goto rfl ?_
  refine Ev_iload rfl rfl ?_
  refine Ev_const rfl ?_
  refine Ev_icmp_ge rfl (fun h => absurd h (by decide)) (fun _ => ?_)
  refine Ev_aload rfl rfl rfl ?_
  refine Ev_getR (k' := 44) rfl rfl (by decide +kernel) ?_
  refine Ev_iload rfl rfl ?_
  refine Ev_new rfl rfl ⟨by decide, by decide⟩ ?_
  refine Ev_st (ρ' := r299) (σ' := s299) rfl rfl ?_
  refine Ev_dup rfl (fun _ q => nomatch q) ?_
  refine Ev_callI rfl rfl rfl rfl ⟨by decide, by decide, by decide⟩ (k64 d) ?_
  rintro v ρ' σ' ⟨rfl, rfl, rfl⟩
  refine Ev_aast rfl rfl rfl (by unfold vp_in; decide) ?_
  refine Ev_st (ρ' := r308) (σ' := s308) rfl rfl ?_
  refine Ev_iincE (v := 14) rfl rfl (by decide) ?_
  refine Ev_goto rfl ?_
  refine Ev_iload rfl rfl ?_
  refine Ev_const rfl ?_
  refine Ev_icmp_ge rfl (fun h => absurd h (by decide)) (fun _ => ?_)
  refine Ev_aload rfl rfl rfl ?_
  refine Ev_getR (k' := 44) rfl rfl (by decide +kernel) ?_
  refine Ev_iload rfl rfl ?_
  refine Ev_new rfl rfl ⟨by decide, by decide⟩ ?_
  refine Ev_st (ρ' := r309) (σ' := s309) rfl rfl ?_
  refine Ev_dup rfl (fun _ q => nomatch q) ?_
  refine Ev_callI rfl rfl rfl rfl ⟨by decide, by decide, by decide⟩ (k65 d) ?_
  rintro v ρ' σ' ⟨rfl, rfl, rfl⟩
  refine Ev_aast rfl rfl rfl (by unfold vp_in; decide) ?_
  refine Ev_st (ρ' := r318) (σ' := s318) rfl rfl ?_
  refine Ev_iincE (v := 15) rfl rfl (by decide) ?_
  refine Ev_goto rfl ?_
  refine Ev_iload rfl rfl ?_
  refine Ev_const rfl ?_
  refine Ev_icmp_ge rfl (fun h => absurd h (by decide)) (fun _ => ?_)
  refine Ev_aload rfl rfl rfl ?_
  refine Ev_getR (k' := 44) rfl rfl (by decide +kernel) ?_
  refine Ev_iload rfl rfl ?_
  refine Ev_new rfl rfl ⟨by decide, by decide⟩ ?_
  refine Ev_st (ρ' := r319) (σ' := s319) rfl rfl ?_
  refine Ev_dup rfl (fun _ q => nomatch q) ?_
  refine Ev_callI rfl rfl rfl rfl ⟨by decide, by decide, by decide⟩ (k66 d) ?_
  rintro v ρ' σ' ⟨rfl, rfl, rfl⟩
  refine Ev_aast rfl rfl rfl (by unfold vp_in; decide) ?_
  refine Ev_st (ρ' := r328) (σ' := s328) rfl rfl ?_
  refine Ev_iincE (v := 16) rfl rfl (by decide) ?_
  refine Ev_goto rfl ?_
  refine Ev_iload rfl rfl ?_
  refine Ev_const rfl ?_
  refine Ev_icmp_ge rfl (fun h => absurd h (by decide)) (fun _ => ?_)
  refine Ev_aload rfl rfl rfl ?_
  refine Ev_getR (k' := 44) rfl rfl (by decide +kernel) ?_
  refine Ev_iload rfl rfl ?_
  refine Ev_new rfl rfl ⟨by decide, by decide⟩ ?_
  refine Ev_st (ρ' := r329) (σ' := s329) rfl rfl ?_
  refine Ev_dup rfl (fun _ q => nomatch q) ?_
  refine Ev_callI rfl rfl rfl rfl ⟨by decide, by decide, by decide⟩ (k67 d) ?_
  rintro v ρ' σ' ⟨rfl, rfl, rfl⟩
  refine Ev_aast rfl rfl rfl (by unfold vp_in; decide) ?_
  refine Ev_st (ρ' := r338) (σ' := s338) rfl rfl ?_
  refine Ev_iincE (v := 17) rfl rfl (by decide) ?_
  refine Ev_goto rfl ?_
  refine Ev_iload rfl rfl ?_
  refine Ev_const rfl ?_
  refine Ev_icmp_ge rfl (fun h => absurd h (by decide)) (fun _ => ?_)
  refine Ev_aload rfl rfl rfl ?_
  refine Ev_getR (k' := 44) rfl rfl (by decide +kernel) ?_
  refine Ev_iload rfl rfl ?_
  refine Ev_new rfl rfl ⟨by decide, by decide⟩ ?_
  refine Ev_st (ρ' := r339) (σ' := s339) rfl rfl ?_
  refine Ev_dup rfl (fun _ q => nomatch q) ?_
  refine Ev_callI rfl rfl rfl rfl ⟨by decide, by decide, by decide⟩ (k68 d) ?_
  rintro v ρ' σ' ⟨rfl, rfl, rfl⟩
  refine Ev_aast rfl rfl rfl (by unfold vp_in; decide) ?_
  refine Ev_st (ρ' := r348) (σ' := s348) rfl rfl ?_
  refine Ev_iincE (v := 18) rfl rfl (by decide) ?_
  refine Ev_goto rfl ?_
  refine Ev_iload rfl rfl ?_
  refine Ev_const rfl ?_
  refine Ev_icmp_ge rfl (fun h => absurd h (by decide)) (fun _ => ?_)
  refine Ev_aload rfl rfl rfl ?_
  refine Ev_getR (k' := 44) rfl rfl (by decide +kernel) ?_
  refine Ev_iload rfl rfl ?_
  refine Ev_new rfl rfl ⟨by decide, by decide⟩ ?_
  refine Ev_st (ρ' := r349) (σ' := s349) rfl rfl ?_
  refine Ev_dup rfl (fun _ q => nomatch q) ?_
  refine Ev_callI rfl rfl rfl rfl ⟨by decide, by decide, by decide⟩ (k69 d) ?_
  rintro v ρ' σ' ⟨rfl, rfl, rfl⟩
  refine Ev_aast rfl rfl rfl (by unfold vp_in; decide) ?_
  refine Ev_st (ρ' := r358) (σ' := s358) rfl rfl ?_
  refine Ev_iincE (v := 19) rfl rfl (by decide) ?_
  refine Ev_goto rfl ?_
  refine Ev_iload rfl rfl ?_
  refine Ev_const rfl ?_
  refine Ev_icmp_ge rfl (fun h => absurd h (by decide)) (fun _ => ?_)
  refine Ev_aload rfl rfl rfl ?_
  refine Ev_getR (k' := 44) rfl rfl (by decide +kernel) ?_
  refine Ev_iload rfl rfl ?_
  refine Ev_new rfl rfl ⟨by decide, by decide⟩ ?_
  refine Ev_st (ρ' := r359) (σ' := s359) rfl rfl ?_
  refine Ev_dup rfl (fun _ q => nomatch q) ?_
  refine Ev_callI rfl rfl rfl rfl ⟨by decide, by decide, by decide⟩ (k70 d) ?_
  rintro v ρ' σ' ⟨rfl, rfl, rfl⟩
  refine Ev_aast rfl rfl rfl (by unfold vp_in; decide) ?_
  refine Ev_st (ρ' := r368) (σ' := s368) rfl rfl ?_
  refine Ev_iincE (v := 20) rfl rfl (by decide) ?_
  refine Ev_goto rfl ?_
  refine Ev_iload rfl rfl ?_
  refine Ev_const rfl ?_
  refine Ev_icmp_ge rfl (fun _ => ?_) (fun h => absurd (by decide) h)
  exact Ev_return rfl rfl rfl ⟨rfl, rfl, rfl⟩
set_option maxRecDepth 20000 in
theorem k72 (d : Nat) : T l X (d + 1) 48 [.ref 265, .ref 2] 266 267 r370 s370 (Ru r373 s373) := by
  refine T_of rfl ?_
  refine Ev_aload rfl rfl rfl ?_
  refine Ev_obj rfl rfl ?_
  refine Ev_aload rfl rfl rfl ?_
  refine Ev_const rfl ?_
  refine Ev_newa rfl (by decide) rfl ⟨by decide, by decide⟩ ?_
  refine Ev_st (ρ' := r371) (σ' := s371) rfl rfl ?_
  refine Ev_putR rfl rfl (fun _ => ⟨rfl, rfl⟩) (Or.inr ⟨rfl, rfl, rfl⟩) ?_
  refine Ev_st (ρ' := r372) (σ' := s372) rfl rfl ?_
  refine Ev_aload rfl rfl rfl ?_
  refine Ev_aload rfl rfl rfl ?_
  refine Ev_putR rfl rfl (fun _ => ⟨rfl, rfl⟩) (Or.inl rfl) ?_
  refine Ev_st (ρ' := r373) (σ' := s373) rfl rfl ?_
  exact Ev_return rfl rfl rfl ⟨rfl, rfl, rfl⟩
set_option maxRecDepth 20000 in
theorem k73 (d : Nat) : T l X (d + 1) 61 [.ref 268] 269 279 r376 s376 (Ru r384 s384) := by
  refine T_of rfl ?_
  refine Ev_aload rfl rfl rfl ?_
  refine Ev_obj rfl rfl ?_
  refine Ev_aload rfl rfl rfl ?_
  refine Ev_const rfl ?_
  refine Ev_const rfl ?_
  refine Ev_multi 6 8 rfl (by decide) (by decide) (by decide) (by decide) ⟨by decide, by decide⟩ ?_
  refine Ev_st (ρ' := r377) (σ' := s377) rfl rfl ?_
  refine Ev_putR rfl rfl (fun _ => ⟨rfl, rfl⟩) (Or.inr ⟨rfl, rfl, rfl⟩) ?_
  refine Ev_st (ρ' := r378) (σ' := s378) rfl rfl ?_
  refine Ev_aload rfl rfl rfl ?_
  refine Ev_const rfl ?_
  refine Ev_newa rfl (by decide) rfl ⟨by decide, by decide⟩ ?_
  refine Ev_st (ρ' := r379) (σ' := s379) rfl rfl ?_
  refine Ev_putR rfl rfl (fun _ => ⟨rfl, rfl⟩) (Or.inr ⟨rfl, rfl, rfl⟩) ?_
  refine Ev_st (ρ' := r380) (σ' := s380) rfl rfl ?_
  refine Ev_aload rfl rfl rfl ?_
  refine Ev_const rfl ?_
  refine Ev_newa rfl (by decide) rfl ⟨by decide, by decide⟩ ?_
  refine Ev_st (ρ' := r381) (σ' := s381) rfl rfl ?_
  refine Ev_putR rfl rfl (fun _ => ⟨rfl, rfl⟩) (Or.inr ⟨rfl, rfl, rfl⟩) ?_
  refine Ev_st (ρ' := r382) (σ' := s382) rfl rfl ?_
  refine Ev_aload rfl rfl rfl ?_
  refine Ev_const rfl ?_
  refine Ev_newa rfl (by decide) rfl ⟨by decide, by decide⟩ ?_
  refine Ev_st (ρ' := r383) (σ' := s383) rfl rfl ?_
  refine Ev_putR rfl rfl (fun _ => ⟨rfl, rfl⟩) (Or.inr ⟨rfl, rfl, rfl⟩) ?_
  refine Ev_st (ρ' := r384) (σ' := s384) rfl rfl ?_
  exact Ev_return rfl rfl rfl ⟨rfl, rfl, rfl⟩
set_option maxRecDepth 20000 in
theorem k74 (d : Nat) : T l X (d + 2) 11 [.ref 267, .ref 265, .ref 32] 268 316 r375 s375 (Ru r405 s405) := by
  refine T_of rfl ?_
  refine Ev_aload rfl rfl rfl ?_
  refine Ev_obj rfl rfl ?_
  refine Ev_aload rfl rfl rfl ?_
  refine Ev_new rfl rfl ⟨by decide, by decide⟩ ?_
  refine Ev_st (ρ' := r376) (σ' := s376) rfl rfl ?_
  refine Ev_dup rfl (fun _ q => nomatch q) ?_
  refine Ev_callI rfl rfl rfl rfl ⟨by decide, by decide, by decide⟩ (k73 d) ?_
  rintro v ρ' σ' ⟨rfl, rfl, rfl⟩
  refine Ev_putR rfl rfl (fun _ => ⟨rfl, rfl⟩) (Or.inr ⟨rfl, rfl, rfl⟩) ?_
  refine Ev_st (ρ' := r385) (σ' := s385) rfl rfl ?_
  refine Ev_aload rfl rfl rfl ?_
  refine Ev_const rfl ?_
  refine Ev_newa rfl (by decide) rfl ⟨by decide, by decide⟩ ?_
  refine Ev_st (ρ' := r386) (σ' := s386) rfl rfl ?_
  refine Ev_putR rfl rfl (fun _ => ⟨rfl, rfl⟩) (Or.inr ⟨rfl, rfl, rfl⟩) ?_
  refine Ev_st (ρ' := r387) (σ' := s387) rfl rfl ?_
  refine Ev_aload rfl rfl rfl ?_
  refine Ev_const rfl ?_
  refine Ev_const rfl ?_
  refine Ev_multi 5 8 rfl (by decide) (by decide) (by decide) (by decide) ⟨by decide, by decide⟩ ?_
  refine Ev_st (ρ' := r388) (σ' := s388) rfl rfl ?_
  refine Ev_putR rfl rfl (fun _ => ⟨rfl, rfl⟩) (Or.inr ⟨rfl, rfl, rfl⟩) ?_
  refine Ev_st (ρ' := r389) (σ' := s389) rfl rfl ?_
  refine Ev_aload rfl rfl rfl ?_
  refine Ev_const rfl ?_
  refine Ev_newa rfl (by decide) rfl ⟨by decide, by decide⟩ ?_
  refine Ev_st (ρ' := r390) (σ' := s390) rfl rfl ?_
  refine Ev_putR rfl rfl (fun _ => ⟨rfl, rfl⟩) (Or.inr ⟨rfl, rfl, rfl⟩) ?_
  refine Ev_st (ρ' := r391) (σ' := s391) rfl rfl ?_
  refine Ev_aload rfl rfl rfl ?_
  refine Ev_const rfl ?_
  refine Ev_newa rfl (by decide) rfl ⟨by decide, by decide⟩ ?_
  refine Ev_st (ρ' := r392) (σ' := s392) rfl rfl ?_
  refine Ev_putR rfl rfl (fun _ => ⟨rfl, rfl⟩) (Or.inr ⟨rfl, rfl, rfl⟩) ?_
  refine Ev_st (ρ' := r393) (σ' := s393) rfl rfl ?_
  refine Ev_aload rfl rfl rfl ?_
  refine Ev_const rfl ?_
  refine Ev_const rfl ?_
  refine Ev_multi 6 8 rfl (by decide) (by decide) (by decide) (by decide) ⟨by decide, by decide⟩ ?_
  refine Ev_st (ρ' := r394) (σ' := s394) rfl rfl ?_
  refine Ev_putR rfl rfl (fun _ => ⟨rfl, rfl⟩) (Or.inr ⟨rfl, rfl, rfl⟩) ?_
  refine Ev_st (ρ' := r395) (σ' := s395) rfl rfl ?_
  refine Ev_aload rfl rfl rfl ?_
  refine Ev_const rfl ?_
  refine Ev_const rfl ?_
  refine Ev_multi 7 256 rfl (by decide) (by decide) (by decide) (by decide) ⟨by decide, by decide⟩ ?_
  refine Ev_st (ρ' := r396) (σ' := s396) rfl rfl ?_
  refine Ev_putR rfl rfl (fun _ => ⟨rfl, rfl⟩) (Or.inr ⟨rfl, rfl, rfl⟩) ?_
  refine Ev_st (ρ' := r397) (σ' := s397) rfl rfl ?_
  refine Ev_aload rfl rfl rfl ?_
  refine Ev_const rfl ?_
  refine Ev_newa rfl (by decide) rfl ⟨by decide, by decide⟩ ?_
  refine Ev_st (ρ' := r398) (σ' := s398) rfl rfl ?_
  refine Ev_putR rfl rfl (fun _ => ⟨rfl, rfl⟩) (Or.inr ⟨rfl, rfl, rfl⟩) ?_
  refine Ev_st (ρ' := r399) (σ' := s399) rfl rfl ?_
  refine Ev_aload rfl rfl rfl ?_
  refine Ev_const rfl ?_
  refine Ev_const rfl ?_
  refine Ev_multi 10 8 rfl (by decide) (by decide) (by decide) (by decide) ⟨by decide, by decide⟩ ?_
  refine Ev_st (ρ' := r400) (σ' := s400) rfl rfl ?_
  refine Ev_putR rfl rfl (fun _ => ⟨rfl, rfl⟩) (Or.inr ⟨rfl, rfl, rfl⟩) ?_
  refine Ev_st (ρ' := r401) (σ' := s401) rfl rfl ?_
  refine Ev_aload rfl rfl rfl ?_
  refine Ev_const rfl ?_
  refine Ev_newa rfl (by decide) rfl ⟨by decide, by decide⟩ ?_
  refine Ev_st (ρ' := r402) (σ' := s402) rfl rfl ?_
  refine Ev_putR rfl rfl (fun _ => ⟨rfl, rfl⟩) (Or.inr ⟨rfl, rfl, rfl⟩) ?_
  refine Ev_st (ρ' := r403) (σ' := s403) rfl rfl ?_
  refine Ev_aload rfl rfl rfl ?_
  refine Ev_aload rfl rfl rfl ?_
  refine Ev_putR rfl rfl (fun _ => ⟨rfl, rfl⟩) (Or.inr ⟨rfl, rfl, rfl⟩) ?_
  refine Ev_st (ρ' := r404) (σ' := s404) rfl rfl ?_
  refine Ev_aload rfl rfl rfl ?_
  refine Ev_aload rfl rfl rfl ?_
  refine Ev_putR rfl rfl (fun _ => ⟨rfl, rfl⟩) (Or.inr ⟨rfl, rfl, rfl⟩) ?_
  refine Ev_st (ρ' := r405) (σ' := s405) rfl rfl ?_
  exact Ev_return rfl rfl rfl ⟨rfl, rfl, rfl⟩
set_option maxRecDepth 20000 in
theorem k75 (d : Nat) : T l X (d + 1) 92 [.ref 316, .ref 1] 317 317 r407 s407 (Ru r408 s408) := by
  refine T_of rfl ?_
  refine Ev_aload rfl rfl rfl ?_
  refine Ev_obj rfl rfl ?_
  refine Ev_aload rfl rfl rfl ?_
  refine Ev_aload rfl rfl rfl ?_
  refine Ev_putR rfl rfl (fun _ => ⟨rfl, rfl⟩) (Or.inr ⟨rfl, rfl, rfl⟩) ?_
  refine Ev_st (ρ' := r408) (σ' := s408) rfl rfl ?_
  exact Ev_return rfl rfl rfl ⟨rfl, rfl, rfl⟩
set_option maxRecDepth 20000 in
theorem k76 (d : Nat) : T l X (d + 1) 34 [.ref 318, .ref 316, .ref 27] 319 319 r413 s413 (Ru r415 s415) := by
  refine T_of rfl ?_
  refine Ev_aload rfl rfl rfl ?_
  refine Ev_obj rfl rfl ?_
  refine Ev_aload rfl rfl rfl ?_
  refine Ev_aload rfl rfl rfl ?_
  refine Ev_putR rfl rfl (fun _ => ⟨rfl, rfl⟩) (Or.inr ⟨rfl, rfl, rfl⟩) ?_
  refine Ev_st (ρ' := r414) (σ' := s414) rfl rfl ?_
  refine Ev_aload rfl rfl rfl ?_
  refine Ev_aload rfl rfl rfl ?_
  refine Ev_putR rfl rfl (fun _ => ⟨rfl, rfl⟩) (Or.inl rfl) ?_
  refine Ev_st (ρ' := r415) (σ' := s415) rfl rfl ?_
  exact Ev_return rfl rfl rfl ⟨rfl, rfl, rfl⟩
set_option maxRecDepth 20000 in
theorem k77 (d : Nat) : T l X (d + 2) 78 [.ref 317, .ref 316, .ref 17] 318 319 r410 s410 (Ru r416 s416) := by
  refine T_of rfl ?_
  refine Ev_aload rfl rfl rfl ?_
  refine Ev_obj rfl rfl ?_
  refine Ev_aload rfl rfl rfl ?_
  refine Ev_aload rfl rfl rfl ?_
  refine Ev_putR rfl rfl (fun _ => ⟨rfl, rfl⟩) (Or.inr ⟨rfl, rfl, rfl⟩) ?_
  refine Ev_st (ρ' := r411) (σ' := s411) rfl rfl ?_
  refine Ev_aload rfl rfl rfl ?_
  refine Ev_aload rfl rfl rfl ?_
  refine Ev_putR rfl rfl (fun _ => ⟨rfl, rfl⟩) (Or.inl rfl) ?_
  refine Ev_st (ρ' := r412) (σ' := s412) rfl rfl ?_
  refine Ev_aload rfl rfl rfl ?_
  refine Ev_new rfl rfl ⟨by decide, by decide⟩ ?_
  refine Ev_st (ρ' := r413) (σ' := s413) rfl rfl ?_
  refine Ev_dup rfl (fun _ q => nomatch q) ?_
  refine Ev_aload rfl rfl rfl ?_
  refine Ev_aload rfl rfl rfl ?_
  refine Ev_getR (k' := 27) rfl rfl (by decide +kernel) ?_
  refine Ev_callI rfl rfl rfl rfl ⟨by decide, by decide, by decide⟩ (k76 d) ?_
  rintro v ρ' σ' ⟨rfl, rfl, rfl⟩
  refine Ev_putR rfl rfl (fun _ => ⟨rfl, rfl⟩) (Or.inr ⟨rfl, rfl, rfl⟩) ?_
  refine Ev_st (ρ' := r416) (σ' := s416) rfl rfl ?_
  exact Ev_return rfl rfl rfl ⟨rfl, rfl, rfl⟩
set_option maxRecDepth 20000 in
theorem k78 (d : Nat) : T l X (d + 1) 68 [.ref 319] 320 322 r418 s418 (Ru r422 s422) := by
  refine T_of rfl ?_
  refine Ev_aload rfl rfl rfl ?_
  refine Ev_obj rfl rfl ?_
  refine Ev_aload rfl rfl rfl ?_
  refine Ev_const rfl ?_
  refine Ev_newa rfl (by decide) rfl ⟨by decide, by decide⟩ ?_
  refine Ev_st (ρ' := r419) (σ' := s419) rfl rfl ?_
  refine Ev_putR rfl rfl (fun _ => ⟨rfl, rfl⟩) (Or.inr ⟨rfl, rfl, rfl⟩) ?_
  refine Ev_st (ρ' := r420) (σ' := s420) rfl rfl ?_
  refine Ev_aload rfl rfl rfl ?_
  refine Ev_const rfl ?_
  refine Ev_newa rfl (by decide) rfl ⟨by decide, by decide⟩ ?_
  refine Ev_st (ρ' := r421) (σ' := s421) rfl rfl ?_
  refine Ev_putR rfl rfl (fun _ => ⟨rfl, rfl⟩) (Or.inr ⟨rfl, rfl, rfl⟩) ?_
  refine Ev_st (ρ' := r422) (σ' := s422) rfl rfl ?_
  exact Ev_return rfl rfl rfl ⟨rfl, rfl, rfl⟩
set_option maxRecDepth 20000 in
theorem k79 (d : Nat) : T l X (d + 5) 109 [.ref 0] 1 324 r1 s1 (Ru r429 s429) := by
  refine T_of rfl ?_
  refine Ev_aload rfl rfl rfl ?_
  refine Ev_obj rfl rfl ?_
  refine Ev_aload rfl rfl rfl ?_
  refine Ev_const rfl ?_
  refine Ev_newa rfl (by decide) rfl ⟨by decide, by decide⟩ ?_
  refine Ev_st (ρ' := r2) (σ' := s2) rfl rfl ?_
  refine Ev_putR rfl rfl (fun _ => ⟨rfl, rfl⟩) (Or.inr ⟨rfl, rfl, rfl⟩) ?_
  refine Ev_st (ρ' := r3) (σ' := s3) rfl rfl ?_
  refine Ev_aload rfl rfl rfl ?_
  refine Ev_new rfl rfl ⟨by decide, by decide⟩ ?_
  refine Ev_st (ρ' := r4) (σ' := s4) rfl rfl ?_
  refine Ev_dup rfl (fun _ q => nomatch q) ?_
  refine Ev_callI rfl rfl rfl rfl ⟨by decide, by decide, by decide⟩ (k24 d) ?_
  rintro v ρ' σ' ⟨rfl, rfl, rfl⟩
  refine Ev_putR rfl rfl (fun _ => ⟨rfl, rfl⟩) (Or.inl rfl) ?_
  refine Ev_st (ρ' := r79) (σ' := s79) rfl rfl ?_
  refine Ev_aload rfl rfl rfl ?_
  refine Ev_new rfl rfl ⟨by decide, by decide⟩ ?_
  refine Ev_st (ρ' := r80) (σ' := s80) rfl rfl ?_
  refine Ev_dup rfl (fun _ q => nomatch q) ?_
  refine Ev_callI rfl rfl rfl rfl ⟨by decide, by decide, by decide⟩ (k49 d) ?_
  rintro v ρ' σ' ⟨rfl, rfl, rfl⟩
  refine Ev_putR rfl rfl (fun _ => ⟨rfl, rfl⟩) (Or.inl rfl) ?_
  refine Ev_st (ρ' := r155) (σ' := s155) rfl rfl ?_
  refine Ev_aload rfl rfl rfl ?_
  refine Ev_new rfl rfl ⟨by decide, by decide⟩ ?_
  refine Ev_st (ρ' := r156) (σ' := s156) rfl rfl ?_
  refine Ev_dup rfl (fun _ q => nomatch q) ?_
  refine Ev_callI rfl rfl rfl rfl ⟨by decide, by decide, by decide⟩ (k50 (d + 3)) ?_
  rintro v ρ' σ' ⟨rfl, rfl, rfl⟩
  refine Ev_putR rfl rfl (fun _ => ⟨rfl, rfl⟩) (Or.inr ⟨rfl, rfl, rfl⟩) ?_
  refine Ev_st (ρ' := r165) (σ' := s165) rfl rfl ?_
  refine Ev_aload rfl rfl rfl ?_
  refine Ev_new rfl rfl ⟨by decide, by decide⟩ ?_
  refine Ev_st (ρ' := r166) (σ' := s166) rfl rfl ?_
  refine Ev_dup rfl (fun _ q => nomatch q) ?_
  refine Ev_callI rfl rfl rfl rfl ⟨by decide, by decide, by decide⟩ (k71 (d + 2)) ?_
  rintro v ρ' σ' ⟨rfl, rfl, rfl⟩
  refine Ev_putR rfl rfl (fun _ => ⟨rfl, rfl⟩) (Or.inr ⟨rfl, rfl, rfl⟩) ?_
  refine Ev_st (ρ' := r369) (σ' := s369) rfl rfl ?_
  refine Ev_aload rfl rfl rfl ?_
  refine Ev_new rfl rfl ⟨by decide, by decide⟩ ?_
  refine Ev_st (ρ' := r370) (σ' := s370) rfl rfl ?_
  refine Ev_dup rfl (fun _ q => nomatch q) ?_
  refine Ev_aload rfl rfl rfl ?_
  refine Ev_getR (k' := 2) rfl rfl (by decide +kernel) ?_
  refine Ev_callI rfl rfl rfl rfl ⟨by decide, by decide, by decide⟩ (k72 (d + 3)) ?_
  rintro v ρ' σ' ⟨rfl, rfl, rfl⟩
  refine Ev_putR rfl rfl (fun _ => ⟨rfl, rfl⟩) (Or.inr ⟨rfl, rfl, rfl⟩) ?_
  refine Ev_st (ρ' := r374) (σ' := s374) rfl rfl ?_
  refine Ev_aload rfl rfl rfl ?_
  refine Ev_new rfl rfl ⟨by decide, by decide⟩ ?_
  refine Ev_st (ρ' := r375) (σ' := s375) rfl rfl ?_
  refine Ev_dup rfl (fun _ q => nomatch q) ?_
  refine Ev_aload rfl rfl rfl ?_
  refine Ev_getR (k' := 265) rfl rfl (by decide +kernel) ?_
  refine Ev_aload rfl rfl rfl ?_
  refine Ev_getR (k' := 32) rfl rfl (by decide +kernel) ?_
  refine Ev_callI rfl rfl rfl rfl ⟨by decide, by decide, by decide⟩ (k74 (d + 2)) ?_
  rintro v ρ' σ' ⟨rfl, rfl, rfl⟩
  refine Ev_putR rfl rfl (fun _ => ⟨rfl, rfl⟩) (Or.inr ⟨rfl, rfl, rfl⟩) ?_
  refine Ev_st (ρ' := r406) (σ' := s406) rfl rfl ?_
  refine Ev_aload rfl rfl rfl ?_
  refine Ev_new rfl rfl ⟨by decide, by decide⟩ ?_
  refine Ev_st (ρ' := r407) (σ' := s407) rfl rfl ?_
  refine Ev_dup rfl (fun _ q => nomatch q) ?_
  refine Ev_aload rfl rfl rfl ?_
  refine Ev_getR (k' := 1) rfl rfl (by decide +kernel) ?_
  refine Ev_callI rfl rfl rfl rfl ⟨by decide, by decide, by decide⟩ (k75 (d + 3)) ?_
  rintro v ρ' σ' ⟨rfl, rfl, rfl⟩
  refine Ev_putR rfl rfl (fun _ => ⟨rfl, rfl⟩) (Or.inr ⟨rfl, rfl, rfl⟩) ?_
  refine Ev_st (ρ' := r409) (σ' := s409) rfl rfl ?_
  refine Ev_aload rfl rfl rfl ?_
  refine Ev_new rfl rfl ⟨by decide, by decide⟩ ?_
  refine Ev_st (ρ' := r410) (σ' := s410) rfl rfl ?_
  refine Ev_dup rfl (fun _ q => nomatch q) ?_
  refine Ev_aload rfl rfl rfl ?_
  refine Ev_getR (k' := 316) rfl rfl (by decide +kernel) ?_
  refine Ev_aload rfl rfl rfl ?_
  refine Ev_getR (k' := 17) rfl rfl (by decide +kernel) ?_
  refine Ev_callI rfl rfl rfl rfl ⟨by decide, by decide, by decide⟩ (k77 (d + 2)) ?_
  rintro v ρ' σ' ⟨rfl, rfl, rfl⟩
  refine Ev_putR rfl rfl (fun _ => ⟨rfl, rfl⟩) (Or.inr ⟨rfl, rfl, rfl⟩) ?_
  refine Ev_st (ρ' := r417) (σ' := s417) rfl rfl ?_
  refine Ev_aload rfl rfl rfl ?_
  refine Ev_new rfl rfl ⟨by decide, by decide⟩ ?_
  refine Ev_st (ρ' := r418) (σ' := s418) rfl rfl ?_
  refine Ev_dup rfl (fun _ q => nomatch q) ?_
  refine Ev_callI rfl rfl rfl rfl ⟨by decide, by decide, by decide⟩ (k78 (d + 3)) ?_
  rintro v ρ' σ' ⟨rfl, rfl, rfl⟩
  refine Ev_putR rfl rfl (fun _ => ⟨rfl, rfl⟩) (Or.inr ⟨rfl, rfl, rfl⟩) ?_
  refine Ev_st (ρ' := r423) (σ' := s423) rfl rfl ?_
  refine Ev_aload rfl rfl rfl ?_
  refine Ev_const rfl ?_
  refine Ev_newa rfl (by decide) rfl ⟨by decide, by decide⟩ ?_
  refine Ev_st (ρ' := r424) (σ' := s424) rfl rfl ?_
  refine Ev_putR rfl rfl (fun _ => ⟨rfl, rfl⟩) (Or.inr ⟨rfl, rfl, rfl⟩) ?_
  refine Ev_st (ρ' := r425) (σ' := s425) rfl rfl ?_
  refine Ev_aload rfl rfl rfl ?_
  refine Ev_const rfl ?_
  refine Ev_newa rfl (by decide) rfl ⟨by decide, by decide⟩ ?_
  refine Ev_st (ρ' := r426) (σ' := s426) rfl rfl ?_
  refine Ev_putR rfl rfl (fun _ => ⟨rfl, rfl⟩) (Or.inr ⟨rfl, rfl, rfl⟩) ?_
  refine Ev_st (ρ' := r427) (σ' := s427) rfl rfl ?_
  refine Ev_aload rfl rfl rfl ?_
  refine Ev_const rfl ?_
  refine Ev_putI rfl rfl ⟨rfl, rfl⟩ rfl ?_
  refine Ev_st (ρ' := r428) (σ' := s428) rfl rfl ?_
  refine Ev_aload rfl rfl rfl ?_
  refine Ev_const rfl ?_
  refine Ev_putI rfl rfl ⟨rfl, rfl⟩ rfl ?_
  refine Ev_st (ρ' := r429) (σ' := s429) rfl rfl ?_
  exact Ev_return rfl rfl rfl ⟨rfl, rfl, rfl⟩
set_option maxRecDepth 20000 in
theorem k80 (d : Nat) : T l X (d + 1) 169 [.ref 324] 325 400 r430 s430 (Ru r809 s809) := by
  refine T_of rfl ?_
  refine Ev_aload rfl rfl rfl ?_
  refine Ev_obj rfl rfl ?_
  refine Ev_aload rfl rfl rfl ?_
  refine Ev_const rfl ?_
  refine Ev_newa rfl (by decide) rfl ⟨by decide, by decide⟩ ?_
  refine Ev_st (ρ' := r431) (σ' := s431) rfl rfl ?_
  refine Ev_putR rfl rfl (fun _ => ⟨rfl, rfl⟩) (Or.inr ⟨rfl, rfl, rfl⟩) ?_
  refine Ev_st (ρ' := r432) (σ' := s432) rfl rfl ?_
  refine Ev_aload rfl rfl rfl ?_
  refine Ev_const rfl ?_
  refine Ev_putI rfl rfl ⟨rfl, rfl⟩ rfl ?_
  refine Ev_st (ρ' := r433) (σ' := s433) rfl rfl ?_
  refine Ev_aload rfl rfl rfl ?_
  refine Ev_const rfl ?_
  refine Ev_newa rfl (by decide) rfl ⟨by decide, by decide⟩ ?_
  refine Ev_st (ρ' := r434) (σ' := s434) rfl rfl ?_
  refine Ev_putR rfl rfl (fun _ => ⟨rfl, rfl⟩) (Or.inr ⟨rfl, rfl, rfl⟩) ?_
  refine Ev_st (ρ' := r435) (σ' := s435) rfl rfl ?_
  refine Ev_aload rfl rfl rfl ?_
  refine Ev_const rfl ?_
  refine Ev_newa rfl (by decide) rfl ⟨by decide, by decide⟩ ?_
  refine Ev_st (ρ' := r436) (σ' := s436) rfl rfl ?_
  refine Ev_dup rfl (fun _ q => nomatch q) ?_
  refine Ev_const rfl ?_
  refine Ev_const rfl ?_
  refine Ev_cast rfl rfl (by unfold vp_in; decide) ?_
  refine Ev_st (ρ' := r437) (σ' := s437) rfl rfl ?_
  refine Ev_dup rfl (fun _ q => nomatch q) ?_
  refine Ev_const rfl ?_
  refine Ev_const rfl ?_
  refine Ev_cast rfl rfl (by unfold vp_in; decide) ?_
  refine Ev_st (ρ' := r438) (σ' := s438) rfl rfl ?_
  refine Ev_dup rfl (fun _ q => nomatch q) ?_
  refine Ev_const rfl ?_
  refine Ev_const rfl ?_
  refine Ev_cast rfl rfl (by unfold vp_in; decide) ?_
  refine Ev_st (ρ' := r439) (σ' := s439) rfl rfl ?_
  refine Ev_dup rfl (fun _ q => nomatch q) ?_
  refine Ev_const rfl ?_
  refine Ev_const rfl ?_
  refine Ev_cast rfl rfl (by unfold vp_in; decide) ?_
  refine Ev_st (ρ' := r440) (σ' := s440) rfl rfl ?_
  refine Ev_putR rfl rfl (fun _ => ⟨rfl, rfl⟩) (Or.inr ⟨rfl, rfl, rfl⟩) ?_
  refine Ev_st (ρ' := r441) (σ' := s441) rfl rfl ?_
  refine Ev_aload rfl rfl rfl ?_
  refine Ev_const rfl ?_
  refine Ev_newa rfl (by decide) rfl ⟨by decide, by decide⟩ ?_
  refine Ev_st (ρ' := r442) (σ' := s442) rfl rfl ?_
  refine Ev_dup rfl (fun _ q => nomatch q) ?_
  refine Ev_const rfl ?_
  refine Ev_const rfl ?_
  refine Ev_cast rfl rfl (by unfold vp_in; decide) ?_
  refine Ev_st (ρ' := r443) (σ' := s443) rfl rfl ?_
  refine Ev_dup rfl (fun _ q => nomatch q) ?_
  refine Ev_const rfl ?_
  refine Ev_const rfl ?_
  refine Ev_cast rfl rfl (by unfold vp_in; decide) ?_
  refine Ev_st (ρ' := r444) (σ' := s444) rfl rfl ?_
  refine Ev_dup rfl (fun _ q => nomatch q) ?_
  refine Ev_const rfl ?_
  refine Ev_const rfl ?_
  refine Ev_cast rfl rfl (by unfold vp_in; decide) ?_
  refine Ev_st (ρ' := r445) (σ' := s445) rfl rfl ?_
  refine Ev_dup rfl (fun _ q => nomatch q) ?_
  refine Ev_const rfl ?_
  refine Ev_const rfl ?_
  refine Ev_cast rfl rfl (by unfold vp_in; decide) ?_
  refine Ev_st (ρ' := r446) (σ' := s446) rfl rfl ?_
  refine Ev_dup rfl (fun _ q => nomatch q) ?_
  refine Ev_const rfl ?_
  refine Ev_const rfl ?_
  refine Ev_cast rfl rfl (by unfold vp_in; decide) ?_
  refine Ev_st (ρ' := r447) (σ' := s447) rfl rfl ?_
  refine Ev_putR rfl rfl (fun _ => ⟨rfl, rfl⟩) (Or.inr ⟨rfl, rfl, rfl⟩) ?_
  refine Ev_st (ρ' := r448) (σ' := s448) rfl rfl ?_
  refine Ev_aload rfl rfl rfl ?_
  refine Ev_const rfl ?_
  refine Ev_newa rfl (by decide) rfl ⟨by decide, by decide⟩ ?_
  refine Ev_st (ρ' := r449) (σ' := s449) rfl rfl ?_
  refine Ev_dup rfl (fun _ q => nomatch q) ?_
  refine Ev_const rfl ?_
  refine Ev_const rfl ?_
  refine Ev_cast rfl rfl (by unfold vp_in; decide) ?_
  refine Ev_st (ρ' := r450) (σ' := s450) rfl rfl ?_
  refine Ev_dup rfl (fun _ q => nomatch q) ?_
  refine Ev_const rfl ?_
  refine Ev_const rfl ?_
  refine Ev_cast rfl rfl (by unfold vp_in; decide) ?_
  refine Ev_st (ρ' := r451) (σ' := s451) rfl rfl ?_
  refine Ev_dup rfl (fun _ q => nomatch q) ?_
  refine Ev_const rfl ?_
  refine Ev_const rfl ?_
  refine Ev_cast rfl rfl (by unfold vp_in; decide) ?_
  refine Ev_st (ρ' := r452) (σ' := s452) rfl rfl ?_
  refine Ev_dup rfl (fun _ q => nomatch q) ?_
  refine Ev_const rfl ?_
  refine Ev_const rfl ?_
  refine Ev_cast rfl rfl (by unfold vp_in; decide) ?_
  refine Ev_st (ρ' := r453) (σ' := s453) rfl rfl ?_
  refine Ev_putR rfl rfl (fun _ => ⟨rfl, rfl⟩) (Or.inr ⟨rfl, rfl, rfl⟩) ?_
  refine Ev_st (ρ' := r454) (σ' := s454) rfl rfl ?_
  refine Ev_aload rfl rfl rfl ?_
  refine Ev_const rfl ?_
  refine Ev_newa rfl (by decide) rfl ⟨by decide, by decide⟩ ?_
  refine Ev_st (ρ' := r455) (σ' := s455) rfl rfl ?_
  refine Ev_dup rfl (fun _ q => nomatch q) ?_
  refine Ev_const rfl ?_
  refine Ev_const rfl ?_
  refine Ev_cast rfl rfl (by unfold vp_in; decide) ?_
  refine Ev_st (ρ' := r456) (σ' := s456) rfl rfl ?_
  refine Ev_dup rfl (fun _ q => nomatch q) ?_
  refine Ev_const rfl ?_
  refine Ev_const rfl ?_
  refine Ev_cast rfl rfl (by unfold vp_in; decide) ?_
  refine Ev_st (ρ' := r457) (σ' := s457) rfl rfl ?_
  refine Ev_dup rfl (fun _ q => nomatch q) ?_
  refine Ev_const rfl ?_
  refine Ev_const rfl ?_
  refine Ev_cast rfl rfl (by unfold vp_in; decide) ?_
  refine Ev_st (ρ' := r458) (σ' := s458) rfl rfl ?_
  refine Ev_putR rfl rfl (fun _ => ⟨rfl, rfl⟩) (Or.inr ⟨rfl, rfl, rfl⟩) ?_
  refine Ev_st (ρ' := r459) (σ' := s459) rfl rfl ?_
  refine Ev_aload rfl rfl rfl ?_
  refine Ev_const rfl ?_
  refine Ev_newa rfl (by decide) rfl ⟨by decide, by decide⟩ ?_
  refine Ev_st (ρ' := r460) (σ' := s460) rfl rfl ?_
  refine Ev_dup rfl (fun _ q => nomatch q) ?_
  refine Ev_const rfl ?_
  refine Ev_const rfl ?_
  refine Ev_cast rfl rfl (by unfold vp_in; decide) ?_
  refine Ev_st (ρ' := r461) (σ' := s461) rfl rfl ?_
  refine Ev_dup rfl (fun _ q => nomatch q) ?_
  refine Ev_const rfl ?_
  refine Ev_const rfl ?_
  refine Ev_cast rfl rfl (by unfold vp_in; decide) ?_
  refine Ev_st (ρ' := r462) (σ' := s462) rfl rfl ?_
  refine Ev_dup rfl (fun _ q => nomatch q) ?_
  refine Ev_const rfl ?_
  refine Ev_const rfl ?_
  refine Ev_cast rfl rfl (by unfold vp_in; decide) ?_
  refine Ev_st (ρ' := r463) (σ' := s463) rfl rfl ?_
  refine Ev_dup rfl (fun _ q => nomatch q) ?_
  refine Ev_const rfl ?_
  refine Ev_const rfl ?_
  refine Ev_cast rfl rfl (by unfold vp_in; decide) ?_
  refine Ev_st (ρ' := r464) (σ' := s464) rfl rfl ?_
  refine Ev_dup rfl (fun _ q => nomatch q) ?_
  refine Ev_const rfl ?_
  refine Ev_const rfl ?_
  refine Ev_cast rfl rfl (by unfold vp_in; decide) ?_
  refine Ev_st (ρ' := r465) (σ' := s465) rfl rfl ?_
  refine Ev_dup rfl (fun _ q => nomatch q) ?_
  refine Ev_const rfl ?_
  refine Ev_const rfl ?_
  refine Ev_cast rfl rfl (by unfold vp_in; decide) ?_
  refine Ev_st (ρ' := r466) (σ' := s466) rfl rfl ?_
  refine Ev_putR rfl rfl (fun _ => ⟨rfl, rfl⟩) (Or.inr ⟨rfl, rfl, rfl⟩) ?_
  refine Ev_st (ρ' := r467) (σ' := s467) rfl rfl ?_
  refine Ev_aload rfl rfl rfl ?_
  refine Ev_const rfl ?_
  refine Ev_newa rfl (by decide) rfl ⟨by decide, by decide⟩ ?_
  refine Ev_st (ρ' := r468) (σ' := s468) rfl rfl ?_
  refine Ev_dup rfl (fun _ q => nomatch q) ?_
  refine Ev_const rfl ?_
  refine Ev_const rfl ?_
  refine Ev_cast rfl rfl (by unfold vp_in; decide) ?_
  refine Ev_st (ρ' := r469) (σ' := s469) rfl rfl ?_
  refine Ev_dup rfl (fun _ q => nomatch q) ?_
  refine Ev_const rfl ?_
  refine Ev_const rfl ?_
  refine Ev_cast rfl rfl (by unfold vp_in; decide) ?_
  refine Ev_st (ρ' := r470) (σ' := s470) rfl rfl ?_
  refine Ev_dup rfl (fun _ q => nomatch q) ?_
  refine Ev_const rfl ?_
  refine Ev_const rfl ?_
  refine Ev_cast rfl rfl (by unfold vp_in; decide) ?_
  refine Ev_st (ρ' := r471) (σ' := s471) rfl rfl ?_
  refine Ev_dup rfl (fun _ q => nomatch q) ?_
  refine Ev_const rfl ?_
  refine Ev_const rfl ?_
  refine Ev_cast rfl rfl (by unfold vp_in; decide) ?_
  refine Ev_st (ρ' := r472) (σ' := s472) rfl rfl ?_
  refine Ev_putR rfl rfl (fun _ => ⟨rfl, rfl⟩) (Or.inr ⟨rfl, rfl, rfl⟩) ?_
  refine Ev_st (ρ' := r473) (σ' := s473) rfl rfl ?_
  refine Ev_aload rfl rfl rfl ?_
  refine Ev_const rfl ?_
  refine Ev_newa rfl (by decide) rfl ⟨by decide, by decide⟩ ?_
  refine Ev_st (ρ' := r474) (σ' := s474) rfl rfl ?_
  refine Ev_dup rfl (fun _ q => nomatch q) ?_
  refine Ev_const rfl ?_
  refine Ev_const rfl ?_
  refine Ev_cast rfl rfl (by unfold vp_in; decide) ?_
  refine Ev_st (ρ' := r475) (σ' := s475) rfl rfl ?_
  refine Ev_dup rfl (fun _ q => nomatch q) ?_
  refine Ev_const rfl ?_
  refine Ev_const rfl ?_
  refine Ev_cast rfl rfl (by unfold vp_in; decide) ?_
  refine Ev_st (ρ' := r476) (σ' := s476) rfl rfl ?_
  refine Ev_dup rfl (fun _ q => nomatch q) ?_
  refine Ev_const rfl ?_
  refine Ev_const rfl ?_
  refine Ev_cast rfl rfl (by unfold vp_in; decide) ?_
  refine Ev_st (ρ' := r477) (σ' := s477) rfl rfl ?_
  refine Ev_dup rfl (fun _ q => nomatch q) ?_
  refine Ev_const rfl ?_
  refine Ev_const rfl ?_
  refine Ev_cast rfl rfl (by unfold vp_in; decide) ?_
  refine Ev_st (ρ' := r478) (σ' := s478) rfl rfl ?_
  refine Ev_putR rfl rfl (fun _ => ⟨rfl, rfl⟩) (Or.inr ⟨rfl, rfl, rfl⟩) ?_
  refine Ev_st (ρ' := r479) (σ' := s479) rfl rfl ?_
  refine Ev_aload rfl rfl rfl ?_
  refine Ev_const rfl ?_
  refine Ev_newa rfl (by decide) rfl ⟨by decide, by decide⟩ ?_
  refine Ev_st (ρ' := r480) (σ' := s480) rfl rfl ?_
  refine Ev_dup rfl (fun _ q => nomatch q) ?_
  refine Ev_const rfl ?_
  refine Ev_const rfl ?_
  refine Ev_cast rfl rfl (by unfold vp_in; decide) ?_
  refine Ev_st (ρ' := r481) (σ' := s481) rfl rfl ?_
  refine Ev_dup rfl (fun _ q => nomatch q) ?_
  refine Ev_const rfl ?_
  refine Ev_const rfl ?_
  refine Ev_cast rfl rfl (by unfold vp_in; decide) ?_
  refine Ev_st (ρ' := r482) (σ' := s482) rfl rfl ?_
  refine Ev_dup rfl (fun _ q => nomatch q) ?_
  refine Ev_const rfl ?_
  refine Ev_const rfl ?_
  refine Ev_cast rfl rfl (by unfold vp_in; decide) ?_
  refine Ev_st (ρ' := r483) (σ' := s483) rfl rfl ?_
  refine Ev_dup rfl (fun _ q => nomatch q) ?_
  refine Ev_const rfl ?_
  refine Ev_const rfl ?_
  refine Ev_cast rfl rfl (by unfold vp_in; decide) ?_
  refine Ev_st (ρ' := r484) (σ' := s484) rfl rfl ?_
  refine Ev_putR rfl rfl (fun _ => ⟨rfl, rfl⟩) (Or.inr ⟨rfl, rfl, rfl⟩) ?_
  refine Ev_st (ρ' := r485) (σ' := s485) rfl rfl ?_
  refine Ev_aload rfl rfl rfl ?_
  refine Ev_const rfl ?_
  refine Ev_newa rfl (by decide) rfl ⟨by decide, by decide⟩ ?_
  refine Ev_st (ρ' := r486) (σ' := s486) rfl rfl ?_
  refine Ev_dup rfl (fun _ q => nomatch q) ?_
  refine Ev_const rfl ?_
  refine Ev_const rfl ?_
  refine Ev_cast rfl rfl (by unfold vp_in; decide) ?_
  refine Ev_st (ρ' := r487) (σ' := s487) rfl rfl ?_
  refine Ev_dup rfl (fun _ q => nomatch q) ?_
  refine Ev_const rfl ?_
  refine Ev_const rfl ?_
  refine Ev_cast rfl rfl (by unfold vp_in; decide) ?_
  refine Ev_st (ρ' := r488) (σ' := s488) rfl rfl ?_
  refine Ev_putR rfl rfl (fun _ => ⟨rfl, rfl⟩) (Or.inr ⟨rfl, rfl, rfl⟩) ?_
  refine Ev_st (ρ' := r489) (σ' := s489) rfl rfl ?_
  refine Ev_aload rfl rfl rfl ?_
  refine Ev_const rfl ?_
  refine Ev_newa rfl (by decide) rfl ⟨by decide, by decide⟩ ?_
  refine Ev_st (ρ' := r490) (σ' := s490) rfl rfl ?_
  refine Ev_dup rfl (fun _ q => nomatch q) ?_
  refine Ev_const rfl ?_
  refine Ev_const rfl ?_
  refine Ev_cast rfl rfl (by unfold vp_in; decide) ?_
  refine Ev_st (ρ' := r491) (σ' := s491) rfl rfl ?_
  refine Ev_dup rfl (fun _ q => nomatch q) ?_
  refine Ev_const rfl ?_
  refine Ev_const rfl ?_
  refine Ev_cast rfl rfl (by unfold vp_in; decide) ?_
  refine Ev_st (ρ' := r492) (σ' := s492) rfl rfl ?_
  refine Ev_dup rfl (fun _ q => nomatch q) ?_
  refine Ev_const rfl ?_
  refine Ev_const rfl ?_
  refine Ev_cast rfl rfl (by unfold vp_in; decide) ?_
  refine Ev_st (ρ' := r493) (σ' := s493) rfl rfl ?_
  refine Ev_dup rfl (fun _ q => nomatch q) ?_
  refine Ev_const rfl ?_
  refine Ev_const rfl ?_
  refine Ev_cast rfl rfl (by unfold vp_in; decide) ?_
  refine Ev_st (ρ' := r494) (σ' := s494) rfl rfl ?_
  refine Ev_putR rfl rfl (fun _ => ⟨rfl, rfl⟩) (Or.inr ⟨rfl, rfl, rfl⟩) ?_
  refine Ev_st (ρ' := r495) (σ' := s495) rfl rfl ?_
  refine Ev_aload rfl rfl rfl ?_
  refine Ev_const rfl ?_
  refine Ev_newa rfl (by decide) rfl ⟨by decide, by decide⟩ ?_
  refine Ev_st (ρ' := r496) (σ' := s496) rfl rfl ?_
  refine Ev_dup rfl (fun _ q => nomatch q) ?_
  refine Ev_const rfl ?_
  refine Ev_const rfl ?_
  refine Ev_cast rfl rfl (by unfold vp_in; decide) ?_
  refine Ev_st (ρ' := r497) (σ' := s497) rfl rfl ?_
  refine Ev_dup rfl (fun _ q => nomatch q) ?_
  refine Ev_const rfl ?_
  refine Ev_const rfl ?_
  refine Ev_cast rfl rfl (by unfold vp_in; decide) ?_
  refine Ev_st (ρ' := r498) (σ' := s498) rfl rfl ?_
  refine Ev_dup rfl (fun _ q => nomatch q) ?_
  refine Ev_const rfl ?_
  refine Ev_const rfl ?_
  refine Ev_cast rfl rfl (by unfold vp_in; decide) ?_
  refine Ev_st (ρ' := r499) (σ' := s499) rfl rfl ?_
  refine Ev_dup rfl (fun _ q => nomatch q) ?_
  refine Ev_const rfl ?_
  refine Ev_const rfl ?_
  refine Ev_cast rfl rfl (by unfold vp_in; decide) ?_
  refine Ev_st (ρ' := r500) (σ' := s500) rfl rfl ?_
  refine Ev_dup rfl (fun _ q => nomatch q) ?_
  refine Ev_const rfl ?_
  refine Ev_const rfl ?_
  refine Ev_cast rfl rfl (by unfold vp_in; decide) ?_
  refine Ev_st (ρ' := r501) (σ' := s501) rfl rfl ?_
  refine Ev_putR rfl rfl (fun _ => ⟨rfl, rfl⟩) (Or.inr ⟨rfl, rfl, rfl⟩) ?_
  refine Ev_st (ρ' := r502) (σ' := s502) rfl rfl ?_
  refine Ev_aload rfl rfl rfl ?_
  refine Ev_const rfl ?_
  refine Ev_newa rfl (by decide) rfl ⟨by decide, by decide⟩ ?_
  refine Ev_st (ρ' := r503) (σ' := s503) rfl rfl ?_
  refine Ev_dup rfl (fun _ q => nomatch q) ?_
  refine Ev_const rfl ?_
  refine Ev_const rfl ?_
  refine Ev_cast rfl rfl (by unfold vp_in; decide) ?_
  refine Ev_st (ρ' := r504) (σ' := s504) rfl rfl ?_
  refine Ev_dup rfl (fun _ q => nomatch q) ?_
  refine Ev_const rfl ?_
  refine Ev_const rfl ?_
  refine Ev_cast rfl rfl (by unfold vp_in; decide) ?_
  refine Ev_st (ρ' := r505) (σ' := s505) rfl rfl ?_
  refine Ev_dup rfl (fun _ q => nomatch q) ?_
  refine Ev_const rfl ?_
  refine Ev_const rfl ?_
  refine Ev_cast rfl rfl (by unfold vp_in; decide) ?_
  refine Ev_st (ρ' := r506) (σ' := s506) rfl rfl ?_
  refine Ev_dup rfl (fun _ q => nomatch q) ?_
  refine Ev_const rfl ?_
  refine Ev_const rfl ?_
  refine Ev_cast rfl rfl (by unfold vp_in; decide) ?_
  refine Ev_st (ρ' := r507) (σ' := s507) rfl rfl ?_
  refine Ev_dup rfl (fun _ q => nomatch q) ?_
  refine Ev_const rfl ?_
  refine Ev_const rfl ?_
  refine Ev_cast rfl rfl (by unfold vp_in; decide) ?_
  refine Ev_st (ρ' := r508) (σ' := s508) rfl rfl ?_
  refine Ev_putR rfl rfl (fun _ => ⟨rfl, rfl⟩) (Or.inr ⟨rfl, rfl, rfl⟩) ?_
  refine Ev_st (ρ' := r509) (σ' := s509) rfl rfl ?_
  refine Ev_aload rfl rfl rfl ?_
  refine Ev_const rfl ?_
  refine Ev_newa rfl (by decide) rfl ⟨by decide, by decide⟩ ?_
  refine Ev_st (ρ' := r510) (σ' := s510) rfl rfl ?_
  refine Ev_dup rfl (fun _ q => nomatch q) ?_
  refine Ev_const rfl ?_
  refine Ev_const rfl ?_
  refine Ev_cast rfl rfl (by unfold vp_in; decide) ?_
  refine Ev_st (ρ' := r511) (σ' := s511) rfl rfl ?_
  refine Ev_dup rfl (fun _ q => nomatch q) ?_
  refine Ev_const rfl ?_
  refine Ev_const rfl ?_
  refine Ev_cast rfl rfl (by unfold vp_in; decide) ?_
  refine Ev_st (ρ' := r512) (σ' := s512) rfl rfl ?_
  refine Ev_dup rfl (fun _ q => nomatch q) ?_
  refine Ev_const rfl ?_
  refine Ev_const rfl ?_
  refine Ev_cast rfl rfl (by unfold vp_in; decide) ?_
  refine Ev_st (ρ' := r513) (σ' := s513) rfl rfl ?_
  refine Ev_dup rfl (fun _ q => nomatch q) ?_
  refine Ev_const rfl ?_
  refine Ev_const rfl ?_
  refine Ev_cast rfl rfl (by unfold vp_in; decide) ?_
  refine Ev_st (ρ' := r514) (σ' := s514) rfl rfl ?_
  refine Ev_dup rfl (fun _ q => nomatch q) ?_
  refine Ev_const rfl ?_
  refine Ev_const rfl ?_
  refine Ev_cast rfl rfl (by unfold vp_in; decide) ?_
  refine Ev_st (ρ' := r515) (σ' := s515) rfl rfl ?_
  refine Ev_putR rfl rfl (fun _ => ⟨rfl, rfl⟩) (Or.inr ⟨rfl, rfl, rfl⟩) ?_
  refine Ev_st (ρ' := r516) (σ' := s516) rfl rfl ?_
  refine Ev_aload rfl rfl rfl ?_
  refine Ev_const rfl ?_
  refine Ev_newa rfl (by decide) rfl ⟨by decide, by decide⟩ ?_
  refine Ev_st (ρ' := r517) (σ' := s517) rfl rfl ?_
  refine Ev_dup rfl (fun _ q => nomatch q) ?_
  refine Ev_const rfl ?_
  refine Ev_const rfl ?_
  refine Ev_cast rfl rfl (by unfold vp_in; decide) ?_
  refine Ev_st (ρ' := r518) (σ' := s518) rfl rfl ?_
  refine Ev_dup rfl (fun _ q => nomatch q) ?_
  refine Ev_const rfl ?_
  refine Ev_const rfl ?_
  refine Ev_cast rfl rfl (by unfold vp_in; decide) ?_
  refine Ev_st (ρ' := r519) (σ' := s519) rfl rfl ?_
  refine Ev_dup rfl (fun _ q => nomatch q) ?_
  refine Ev_const rfl ?_
  refine Ev_const rfl ?_
  refine Ev_cast rfl rfl (by unfold vp_in; decide) ?_
  refine Ev_st (ρ' := r520) (σ' := s520) rfl rfl ?_
  refine Ev_dup rfl (fun _ q => nomatch q) ?_
  refine Ev_const rfl ?_
  refine Ev_const rfl ?_
  refine Ev_cast rfl rfl (by unfold vp_in; decide) ?_
  refine Ev_st (ρ' := r521) (σ' := s521) rfl rfl ?_
  refine Ev_dup rfl (fun _ q => nomatch q) ?_
  refine Ev_const rfl ?_
  refine Ev_const rfl ?_
  refine Ev_cast rfl rfl (by unfold vp_in; decide) ?_
  refine Ev_st (ρ' := r522) (σ' := s522) rfl rfl ?_
  refine Ev_dup rfl (fun _ q => nomatch q) ?_
  refine Ev_const rfl ?_
  refine Ev_const rfl ?_
  refine Ev_cast rfl rfl (by unfold vp_in; decide) ?_
  refine Ev_st (ρ' := r523) (σ' := s523) rfl rfl ?_
  refine Ev_putR rfl rfl (fun _ => ⟨rfl, rfl⟩) (Or.inr ⟨rfl, rfl, rfl⟩) ?_
  refine Ev_st (ρ' := r524) (σ' := s524) rfl rfl ?_
  refine Ev_aload rfl rfl rfl ?_
  refine Ev_const rfl ?_
  refine Ev_newa rfl (by decide) rfl ⟨by decide, by decide⟩ ?_
  refine Ev_st (ρ' := r525) (σ' := s525) rfl rfl ?_
  refine Ev_dup rfl (fun _ q => nomatch q) ?_
  refine Ev_const rfl ?_
  refine Ev_const rfl ?_
  refine Ev_cast rfl rfl (by unfold vp_in; decide) ?_
  refine Ev_st (ρ' := r526) (σ' := s526) rfl rfl ?_
  refine Ev_dup rfl (fun _ q => nomatch q) ?_
  refine Ev_const rfl ?_
  refine Ev_const rfl ?_
  refine Ev_cast rfl rfl (by unfold vp_in; decide) ?_
  refine Ev_st (ρ' := r527) (σ' := s527) rfl rfl ?_
  refine Ev_dup rfl (fun _ q => nomatch q) ?_
  refine Ev_const rfl ?_
  refine Ev_const rfl ?_
  refine Ev_cast rfl rfl (by unfold vp_in; decide) ?_
  refine Ev_st (ρ' := r528) (σ' := s528) rfl rfl ?_
  refine Ev_dup rfl (fun _ q => nomatch q) ?_
  refine Ev_const rfl ?_
  refine Ev_const rfl ?_
  refine Ev_cast rfl rfl (by unfold vp_in; decide) ?_
  refine Ev_st (ρ' := r529) (σ' := s529) rfl rfl ?_
  refine Ev_putR rfl rfl (fun _ => ⟨rfl, rfl⟩) (Or.inr ⟨rfl, rfl, rfl⟩) ?_
  refine Ev_st (ρ' := r530) (σ' := s530) rfl rfl ?_
  refine Ev_aload rfl rfl rfl ?_
  refine Ev_const rfl ?_
  refine Ev_newa rfl (by decide) rfl ⟨by decide, by decide⟩ ?_
  refine Ev_st (ρ' := r531) (σ' := s531) rfl rfl ?_
  refine Ev_dup rfl (fun _ q => nomatch q) ?_
  refine Ev_const rfl ?_
  refine Ev_const rfl ?_
  refine Ev_cast rfl rfl (by unfold vp_in; decide) ?_
  refine Ev_st (ρ' := r532) (σ' := s532) rfl rfl ?_
  refine Ev_dup rfl (fun _ q => nomatch q) ?_
  refine Ev_const rfl ?_
  refine Ev_const rfl ?_
  refine Ev_cast rfl rfl (by unfold vp_in; decide) ?_
  refine Ev_st (ρ' := r533) (σ' := s533) rfl rfl ?_
  refine Ev_dup rfl (fun _ q => nomatch q) ?_
  refine Ev_const rfl ?_
  refine Ev_const rfl ?_
  refine Ev_cast rfl rfl (by unfold vp_in; decide) ?_
  refine Ev_st (ρ' := r534) (σ' := s534) rfl rfl ?_
  refine Ev_dup rfl (fun _ q => nomatch q) ?_
  refine Ev_const rfl ?_
  refine Ev_const rfl ?_
  refine Ev_cast rfl rfl (by unfold vp_in; decide) ?_
  refine Ev_st (ρ' := r535) (σ' := s535) rfl rfl ?_
  refine Ev_dup rfl (fun _ q => nomatch q) ?_
  refine Ev_const rfl ?_
  refine Ev_const rfl ?_
  refine Ev_cast rfl rfl (by unfold vp_in; decide) ?_
  refine Ev_st (ρ' := r536) (σ' := s536) rfl rfl ?_
  refine Ev_putR rfl rfl (fun _ => ⟨rfl, rfl⟩) (Or.inr ⟨rfl, rfl, rfl⟩) ?_
  refine Ev_st (ρ' := r537) (σ' := s537) rfl rfl ?_
  refine Ev_aload rfl rfl rfl ?_
  refine Ev_const rfl ?_
  refine Ev_newa rfl (by decide) rfl ⟨by decide, by decide⟩ ?_
  refine Ev_st (ρ' := r538) (σ' := s538) rfl rfl ?_
  refine Ev_dup rfl (fun _ q => nomatch q) ?_
  refine Ev_const rfl ?_
  refine Ev_const rfl ?_
  refine Ev_cast rfl rfl (by unfold vp_in; decide) ?_
  refine Ev_st (ρ' := r539) (σ' := s539) rfl rfl ?_
  refine Ev_dup rfl (fun _ q => nomatch q) ?_
  refine Ev_const rfl ?_
  refine Ev_const rfl ?_
  refine Ev_cast rfl rfl (by unfold vp_in; decide) ?_
  refine Ev_st (ρ' := r540) (σ' := s540) rfl rfl ?_
  refine Ev_dup rfl (fun _ q => nomatch q) ?_
  refine Ev_const rfl ?_
  refine Ev_const rfl ?_
  refine Ev_cast rfl rfl (by unfold vp_in; decide) ?_
  refine Ev_st (ρ' := r541) (σ' := s541) rfl rfl ?_
  refine Ev_dup rfl (fun _ q => nomatch q) ?_
  refine Ev_const rfl ?_
  refine Ev_const rfl ?_
  refine Ev_cast rfl rfl (by unfold vp_in; decide) ?_
  refine Ev_st (ρ' := r542) (σ' := s542) rfl rfl ?_
  refine Ev_dup rfl (fun _ q => nomatch q) ?_
  refine Ev_const rfl ?_
  refine Ev_const rfl ?_
  refine Ev_cast rfl rfl (by unfold vp_in; decide) ?_
  refine Ev_st (ρ' := r543) (σ' := s543) rfl rfl ?_
  refine Ev_dup rfl (fun _ q => nomatch q) ?_
  refine Ev_const rfl ?_
  refine Ev_const rfl ?_
  refine Ev_cast rfl rfl (by unfold vp_in; decide) ?_
  refine Ev_st (ρ' := r544) (σ' := s544) rfl rfl ?_
  refine Ev_dup rfl (fun _ q => nomatch q) ?_
  refine Ev_const rfl ?_
  refine Ev_const rfl ?_
  refine Ev_cast rfl rfl (by unfold vp_in; decide) ?_
  refine Ev_st (ρ' := r545) (σ' := s545) rfl rfl ?_
  refine Ev_dup rfl (fun _ q => nomatch q) ?_
  refine Ev_const rfl ?_
  refine Ev_const rfl ?_
  refine Ev_cast rfl rfl (by unfold vp_in; decide) ?_
  refine Ev_st (ρ' := r546) (σ' := s546) rfl rfl ?_
  refine Ev_putR rfl rfl (fun _ => ⟨rfl, rfl⟩) (Or.inr ⟨rfl, rfl, rfl⟩) ?_
  refine Ev_st (ρ' := r547) (σ' := s547) rfl rfl ?_
  refine Ev_aload rfl rfl rfl ?_
  refine Ev_const rfl ?_
  refine Ev_newa rfl (by decide) rfl ⟨by decide, by decide⟩ ?_
  refine Ev_st (ρ' := r548) (σ' := s548) rfl rfl ?_
  refine Ev_dup rfl (fun _ q => nomatch q) ?_
  refine Ev_const rfl ?_
  refine Ev_const rfl ?_
  refine Ev_cast rfl rfl (by unfold vp_in; decide) ?_
  refine Ev_st (ρ' := r549) (σ' := s549) rfl rfl ?_
  refine Ev_dup rfl (fun _ q => nomatch q) ?_
  refine Ev_const rfl ?_
  refine Ev_const rfl ?_
  refine Ev_cast rfl rfl (by unfold vp_in; decide) ?_
  refine Ev_st (ρ' := r550) (σ' := s550) rfl rfl ?_
  refine Ev_dup rfl (fun _ q => nomatch q) ?_
  refine Ev_const rfl ?_
  refine Ev_const rfl ?_
  refine Ev_cast rfl rfl (by unfold vp_in; decide) ?_
  refine Ev_st (ρ' := r551) (σ' := s551) rfl rfl ?_
  refine Ev_dup rfl (fun _ q => nomatch q) ?_
  refine Ev_const rfl ?_
  refine Ev_const rfl ?_
  refine Ev_cast rfl rfl (by unfold vp_in; decide) ?_
  refine Ev_st (ρ' := r552) (σ' := s552) rfl rfl ?_
  refine Ev_dup rfl (fun _ q => nomatch q) ?_
  refine Ev_const rfl ?_
  refine Ev_const rfl ?_
  refine Ev_cast rfl rfl (by unfold vp_in; decide) ?_
  refine Ev_st (ρ' := r553) (σ' := s553) rfl rfl ?_
  refine Ev_dup rfl (fun _ q => nomatch q) ?_
  refine Ev_const rfl ?_
  refine Ev_const rfl ?_
  refine Ev_cast rfl rfl (by unfold vp_in; decide) ?_
  refine Ev_st (ρ' := r554) (σ' := s554) rfl rfl ?_
  refine Ev_putR rfl rfl (fun _ => ⟨rfl, rfl⟩) (Or.inr ⟨rfl, rfl, rfl⟩) ?_
  refine Ev_st (ρ' := r555) (σ' := s555) rfl rfl ?_
  refine Ev_aload rfl rfl rfl ?_
  refine Ev_const rfl ?_
  refine Ev_newa rfl (by decide) rfl ⟨by decide, by decide⟩ ?_
  refine Ev_st (ρ' := r556) (σ' := s556) rfl rfl ?_
  refine Ev_dup rfl (fun _ q => nomatch q) ?_
  refine Ev_const rfl ?_
  refine Ev_const rfl ?_
  refine Ev_cast rfl rfl (by unfold vp_in; decide) ?_
  refine Ev_st (ρ' := r557) (σ' := s557) rfl rfl ?_
  refine Ev_dup rfl (fun _ q => nomatch q) ?_
  refine Ev_const rfl ?_
  refine Ev_const rfl ?_
  refine Ev_cast rfl rfl (by unfold vp_in; decide) ?_
  refine Ev_st (ρ' := r558) (σ' := s558) rfl rfl ?_
  refine Ev_dup rfl (fun _ q => nomatch q) ?_
  refine Ev_const rfl ?_
  refine Ev_const rfl ?_
  refine Ev_cast rfl rfl (by unfold vp_in; decide) ?_
  refine Ev_st (ρ' := r559) (σ' := s559) rfl rfl ?_
  refine Ev_dup rfl (fun _ q => nomatch q) ?_
  refine Ev_const rfl ?_
  refine Ev_const rfl ?_
  refine Ev_cast rfl rfl (by unfold vp_in; decide) ?_
  refine Ev_st (ρ' := r560) (σ' := s560) rfl rfl ?_
  refine Ev_dup rfl (fun _ q => nomatch q) ?_
  refine Ev_const rfl ?_
  refine Ev_const rfl ?_
  refine Ev_cast rfl rfl (by unfold vp_in; decide) ?_
  refine Ev_st (ρ' := r561) (σ' := s561) rfl rfl ?_
  refine Ev_dup rfl (fun _ q => nomatch q) ?_
  refine Ev_const rfl ?_
  refine Ev_const rfl ?_
  refine Ev_cast rfl rfl (by unfold vp_in; decide) ?_
  refine Ev_st (ρ' := r562) (σ' := s562) rfl rfl ?_
  refine Ev_putR rfl rfl (fun _ => ⟨rfl, rfl⟩) (Or.inr ⟨rfl, rfl, rfl⟩) ?_
  refine Ev_st (ρ' := r563) (σ' := s563) rfl rfl ?_
  refine Ev_aload rfl rfl rfl ?_
  refine Ev_const rfl ?_
  refine Ev_newa rfl (by decide) rfl ⟨by decide, by decide⟩ ?_
  refine Ev_st (ρ' := r564) (σ' := s564) rfl rfl ?_
  refine Ev_dup rfl (fun _ q => nomatch q) ?_
  refine Ev_const rfl ?_
  refine Ev_const rfl ?_
  refine Ev_cast rfl rfl (by unfold vp_in; decide) ?_
  refine Ev_st (ρ' := r565) (σ' := s565) rfl rfl ?_
  refine Ev_dup rfl (fun _ q => nomatch q) ?_
  refine Ev_const rfl ?_
  refine Ev_const rfl ?_
  refine Ev_cast rfl rfl (by unfold vp_in; decide) ?_
  refine Ev_st (ρ' := r566) (σ' := s566) rfl rfl ?_
  refine Ev_dup rfl (fun _ q => nomatch q) ?_
  refine Ev_const rfl ?_
  refine Ev_const rfl ?_
  refine Ev_cast rfl rfl (by unfold vp_in; decide) ?_
  refine Ev_st (ρ' := r567) (σ' := s567) rfl rfl ?_
  refine Ev_dup rfl (fun _ q => nomatch q) ?_
  refine Ev_const rfl ?_
  refine Ev_const rfl ?_
  refine Ev_cast rfl rfl (by unfold vp_in; decide) ?_
  refine Ev_st (ρ' := r568) (σ' := s568) rfl rfl ?_
  refine Ev_dup rfl (fun _ q => nomatch q) ?_
  refine Ev_const rfl ?_
  refine Ev_const rfl ?_
  refine Ev_cast rfl rfl (by unfold vp_in; decide) ?_
  refine Ev_st (ρ' := r569) (σ' := s569) rfl rfl ?_
  refine Ev_putR rfl rfl (fun _ => ⟨rfl, rfl⟩) (Or.inr ⟨rfl, rfl, rfl⟩) ?_
  refine Ev_st (ρ' := r570) (σ' := s570) rfl rfl ?_
  refine Ev_aload rfl rfl rfl ?_
  refine Ev_const rfl ?_
  refine Ev_newa rfl (by decide) rfl ⟨by decide, by decide⟩ ?_
  refine Ev_st (ρ' := r571) (σ' := s571) rfl rfl ?_
  refine Ev_dup rfl (fun _ q => nomatch q) ?_
  refine Ev_const rfl ?_
  refine Ev_const rfl ?_
  refine Ev_cast rfl rfl (by unfold vp_in; decide) ?_
  refine Ev_st (ρ' := r572) (σ' := s572) rfl rfl ?_
  refine Ev_dup rfl (fun _ q => nomatch q) ?_
  refine Ev_const rfl ?_
  refine Ev_const rfl ?_
  refine Ev_cast rfl rfl (by unfold vp_in; decide) ?_
  refine Ev_st (ρ' := r573) (σ' := s573) rfl rfl ?_
  refine Ev_dup rfl (fun _ q => nomatch q) ?_
  refine Ev_const rfl ?_
  refine Ev_const rfl ?_
  refine Ev_cast rfl rfl (by unfold vp_in; decide) ?_
  refine Ev_st (ρ' := r574) (σ' := s574) rfl rfl ?_
  refine Ev_dup rfl (fun _ q => nomatch q) ?_
  refine Ev_const rfl ?_
  refine Ev_const rfl ?_
  refine Ev_cast rfl rfl (by unfold vp_in; decide) ?_
  refine Ev_st (ρ' := r575) (σ' := s575) rfl rfl ?_
  refine Ev_dup rfl (fun _ q => nomatch q) ?_
  refine Ev_const rfl ?_
  refine Ev_const rfl ?_
  refine Ev_cast rfl rfl (by unfold vp_in; decide) ?_
  refine Ev_st (ρ' := r576) (σ' := s576) rfl rfl ?_
  refine Ev_putR rfl rfl (fun _ => ⟨rfl, rfl⟩) (Or.inr ⟨rfl, rfl, rfl⟩) ?_
  refine Ev_st (ρ' := r577) (σ' := s577) rfl rfl ?_
  refine Ev_aload rfl rfl rfl ?_
  refine Ev_const rfl ?_
  refine Ev_newa rfl (by decide) rfl ⟨by decide, by decide⟩ ?_
  refine Ev_st (ρ' := r578) (σ' := s578) rfl rfl ?_
  refine Ev_dup rfl (fun _ q => nomatch q) ?_
  refine Ev_const rfl ?_
  refine Ev_const rfl ?_
  refine Ev_cast rfl rfl (by unfold vp_in; decide) ?_
  refine Ev_st (ρ' := r579) (σ' := s579) rfl rfl ?_
  refine Ev_dup rfl (fun _ q => nomatch q) ?_
  refine Ev_const rfl ?_
  refine Ev_const rfl ?_
  refine Ev_cast rfl rfl (by unfold vp_in; decide) ?_
  refine Ev_st (ρ' := r580) (σ' := s580) rfl rfl ?_
  refine Ev_putR rfl rfl (fun _ => ⟨rfl, rfl⟩) (Or.inr ⟨rfl, rfl, rfl⟩) ?_
  refine Ev_st (ρ' := r581) (σ' := s581) rfl rfl ?_
  refine Ev_aload rfl rfl rfl ?_
  refine Ev_const rfl ?_
  refine Ev_newa rfl (by decide) rfl ⟨by decide, by decide⟩ ?_
  refine Ev_st (ρ' := r582) (σ' := s582) rfl rfl ?_
  refine Ev_dup rfl (fun _ q => nomatch q) ?_
  refine Ev_const rfl ?_
  refine Ev_const rfl ?_
  refine Ev_cast rfl rfl (by unfold vp_in; decide) ?_
  refine Ev_st (ρ' := r583) (σ' := s583) rfl rfl ?_
  refine Ev_dup rfl (fun _ q => nomatch q) ?_
  refine Ev_const rfl ?_
  refine Ev_const rfl ?_
  refine Ev_cast rfl rfl (by unfold vp_in; decide) ?_
  refine Ev_st (ρ' := r584) (σ' := s584) rfl rfl ?_
  refine Ev_dup rfl (fun _ q => nomatch q) ?_
  refine Ev_const rfl ?_
  refine Ev_const rfl ?_
  refine Ev_cast rfl rfl (by unfold vp_in; decide) ?_
  refine Ev_st (ρ' := r585) (σ' := s585) rfl rfl ?_
  refine Ev_putR rfl rfl (fun _ => ⟨rfl, rfl⟩) (Or.inr ⟨rfl, rfl, rfl⟩) ?_
  refine Ev_st (ρ' := r586) (σ' := s586) rfl rfl ?_
  refine Ev_aload rfl rfl rfl ?_
  refine Ev_const rfl ?_
  refine Ev_newa rfl (by decide) rfl ⟨by decide, by decide⟩ ?_
  refine Ev_st (ρ' := r587) (σ' := s587) rfl rfl ?_
  refine Ev_dup rfl (fun _ q => nomatch q) ?_
  refine Ev_const rfl ?_
  refine Ev_const rfl ?_
  refine Ev_cast rfl rfl (by unfold vp_in; decide) ?_
  refine Ev_st (ρ' := r588) (σ' := s588) rfl rfl ?_
  refine Ev_dup rfl (fun _ q => nomatch q) ?_
  refine Ev_const rfl ?_
  refine Ev_const rfl ?_
  refine Ev_cast rfl rfl (by unfold vp_in; decide) ?_
  refine Ev_st (ρ' := r589) (σ' := s589) rfl rfl ?_
  refine Ev_dup rfl (fun _ q => nomatch q) ?_
  refine Ev_const rfl ?_
  refine Ev_const rfl ?_
  refine Ev_cast rfl rfl (by unfold vp_in; decide) ?_
  refine Ev_st (ρ' := r590) (σ' := s590) rfl rfl ?_
  refine Ev_putR rfl rfl (fun _ => ⟨rfl, rfl⟩) (Or.inr ⟨rfl, rfl, rfl⟩) ?_
  refine Ev_st (ρ' := r591) (σ' := s591) rfl rfl ?_
  refine Ev_aload rfl rfl rfl ?_
  refine Ev_const rfl ?_
  refine Ev_newa rfl (by decide) rfl ⟨by decide, by decide⟩ ?_
  refine Ev_st (ρ' := r592) (σ' := s592) rfl rfl ?_
  refine Ev_dup rfl (fun _ q => nomatch q) ?_
  refine Ev_const rfl ?_
  refine Ev_const rfl ?_
  refine Ev_cast rfl rfl (by unfold vp_in; decide) ?_
  refine Ev_st (ρ' := r593) (σ' := s593) rfl rfl ?_
  refine Ev_dup rfl (fun _ q => nomatch q) ?_
  refine Ev_const rfl ?_
  refine Ev_const rfl ?_
  refine Ev_cast rfl rfl (by unfold vp_in; decide) ?_
  refine Ev_st (ρ' := r594) (σ' := s594) rfl rfl ?_
  refine Ev_dup rfl (fun _ q => nomatch q) ?_
  refine Ev_const rfl ?_
  refine Ev_const rfl ?_
  refine Ev_cast rfl rfl (by unfold vp_in; decide) ?_
  refine Ev_st (ρ' := r595) (σ' := s595) rfl rfl ?_
  refine Ev_putR rfl rfl (fun _ => ⟨rfl, rfl⟩) (Or.inr ⟨rfl, rfl, rfl⟩) ?_
  refine Ev_st (ρ' := r596) (σ' := s596) rfl rfl ?_
  refine Ev_aload rfl rfl rfl ?_
  refine Ev_const rfl ?_
  refine Ev_newa rfl (by decide) rfl ⟨by decide, by decide⟩ ?_
  refine Ev_st (ρ' := r597) (σ' := s597) rfl rfl ?_
  refine Ev_dup rfl (fun _ q => nomatch q) ?_
  refine Ev_const rfl ?_
  refine Ev_const rfl ?_
  refine Ev_cast rfl rfl (by unfold vp_in; decide) ?_
  refine Ev_st (ρ' := r598) (σ' := s598) rfl rfl ?_
  refine Ev_dup rfl (fun _ q => nomatch q) ?_
  refine Ev_const rfl ?_
  refine Ev_const rfl ?_
  refine Ev_cast rfl rfl (by unfold vp_in; decide) ?_
  refine Ev_st (ρ' := r599) (σ' := s599) rfl rfl ?_
  refine Ev_dup rfl (fun _ q => nomatch q) ?_
  refine Ev_const rfl ?_
  refine Ev_const rfl ?_
  refine Ev_cast rfl rfl (by unfold vp_in; decide) ?_
  refine Ev_st (ρ' := r600) (σ' := s600) rfl rfl ?_
  refine Ev_putR rfl rfl (fun _ => ⟨rfl, rfl⟩) (Or.inr ⟨rfl, rfl, rfl⟩) ?_
  refine Ev_st (ρ' := r601) (σ' := s601) rfl rfl ?_
  refine Ev_aload rfl rfl rfl ?_
  refine Ev_const rfl ?_
  refine Ev_newa rfl (by decide) rfl ⟨by decide, by decide⟩ ?_
  refine Ev_st (ρ' := r602) (σ' := s602) rfl rfl ?_
  refine Ev_dup rfl (fun _ q => nomatch q) ?_
  refine Ev_const rfl ?_
  refine Ev_const rfl ?_
  refine Ev_cast rfl rfl (by unfold vp_in; decide) ?_
  refine Ev_st (ρ' := r603) (σ' := s603) rfl rfl ?_
  refine Ev_dup rfl (fun _ q => nomatch q) ?_
  refine Ev_const rfl ?_
  refine Ev_const rfl ?_
  refine Ev_cast rfl rfl (by unfold vp_in; decide) ?_
  refine Ev_st (ρ' := r604) (σ' := s604) rfl rfl ?_
  refine Ev_dup rfl (fun _ q => nomatch q) ?_
  refine Ev_const rfl ?_
  refine Ev_const rfl ?_
  refine Ev_cast rfl rfl (by unfold vp_in; decide) ?_
  refine Ev_st (ρ' := r605) (σ' := s605) rfl rfl ?_
  refine Ev_putR rfl rfl (fun _ => ⟨rfl, rfl⟩) (Or.inr ⟨rfl, rfl, rfl⟩) ?_
  refine Ev_st (ρ' := r606) (σ' := s606) rfl rfl ?_
  refine Ev_aload rfl rfl rfl ?_
  refine Ev_const rfl ?_
  refine Ev_newa rfl (by decide) rfl ⟨by decide, by decide⟩ ?_
  refine Ev_st (ρ' := r607) (σ' := s607) rfl rfl ?_
  refine Ev_putR rfl rfl (fun _ => ⟨rfl, rfl⟩) (Or.inr ⟨rfl, rfl, rfl⟩) ?_
  refine Ev_st (ρ' := r608) (σ' := s608) rfl rfl ?_
  refine Ev_aload rfl rfl rfl ?_
  refine Ev_const rfl ?_
  refine Ev_newa rfl (by decide) rfl ⟨by decide, by decide⟩ ?_
  refine Ev_st (ρ' := r609) (σ' := s609) rfl rfl ?_
  refine Ev_putR rfl rfl (fun _ => ⟨rfl, rfl⟩) (Or.inr ⟨rfl, rfl, rfl⟩) ?_
  refine Ev_st (ρ' := r610) (σ' := s610) rfl rfl ?_
  refine Ev_aload rfl rfl rfl ?_
  refine Ev_const rfl ?_
  refine Ev_newa rfl (by decide) rfl ⟨by decide, by decide⟩ ?_
  refine Ev_st (ρ' := r611) (σ' := s611) rfl rfl ?_
  refine Ev_putR rfl rfl (fun _ => ⟨rfl, rfl⟩) (Or.inr ⟨rfl, rfl, rfl⟩) ?_
  refine Ev_st (ρ' := r612) (σ' := s612) rfl rfl ?_
  refine Ev_aload rfl rfl rfl ?_
  refine Ev_const rfl ?_
  refine Ev_newa rfl (by decide) rfl ⟨by decide, by decide⟩ ?_
  refine Ev_st (ρ' := r613) (σ' := s613) rfl rfl ?_
  refine Ev_putR rfl rfl (fun _ => ⟨rfl, rfl⟩) (Or.inr ⟨rfl, rfl, rfl⟩) ?_
  refine Ev_st (ρ' := r614) (σ' := s614) rfl rfl ?_
  refine Ev_aload rfl rfl rfl ?_
  refine Ev_const rfl ?_
  refine Ev_newa rfl (by decide) rfl ⟨by decide, by decide⟩ ?_
  refine Ev_st (ρ' := r615) (σ' := s615) rfl rfl ?_
  refine Ev_putR rfl rfl (fun _ => ⟨rfl, rfl⟩) (Or.inr ⟨rfl, rfl, rfl⟩) ?_
  refine Ev_st (ρ' := r616) (σ' := s616) rfl rfl ?_
  refine Ev_aload rfl rfl rfl ?_
  refine Ev_const rfl ?_
  refine Ev_newa rfl (by decide) rfl ⟨by decide, by decide⟩ ?_
  refine Ev_st (ρ' := r617) (σ' := s617) rfl rfl ?_
  refine Ev_putR rfl rfl (fun _ => ⟨rfl, rfl⟩) (Or.inr ⟨rfl, rfl, rfl⟩) ?_
  refine Ev_st (ρ' := r618) (σ' := s618) rfl rfl ?_
  refine Ev_aload rfl rfl rfl ?_
  refine Ev_const rfl ?_
  refine Ev_newa rfl (by decide) rfl ⟨by decide, by decide⟩ ?_
  refine Ev_st (ρ' := r619) (σ' := s619) rfl rfl ?_
  refine Ev_dup rfl (fun _ q => nomatch q) ?_
  refine Ev_const rfl ?_
  refine Ev_const rfl ?_
  refine Ev_iast rfl rfl (by unfold vp_in; decide) ?_
  refine Ev_st (ρ' := r620) (σ' := s620) rfl rfl ?_
  refine Ev_dup rfl (fun _ q => nomatch q) ?_
  refine Ev_const rfl ?_
  refine Ev_const rfl ?_
  refine Ev_iast rfl rfl (by unfold vp_in; decide) ?_
  refine Ev_st (ρ' := r621) (σ' := s621) rfl rfl ?_
  refine Ev_dup rfl (fun _ q => nomatch q) ?_
  refine Ev_const rfl ?_
  refine Ev_const rfl ?_
  refine Ev_iast rfl rfl (by unfold vp_in; decide) ?_
  refine Ev_st (ρ' := r622) (σ' := s622) rfl rfl ?_
  refine Ev_dup rfl (fun _ q => nomatch q) ?_
  refine Ev_const rfl ?_
  refine Ev_const rfl ?_
  refine Ev_iast rfl rfl (by unfold vp_in; decide) ?_
  refine Ev_st (ρ' := r623) (σ' := s623) rfl rfl ?_
  refine Ev_dup rfl (fun _ q => nomatch q) ?_
  refine Ev_const rfl ?_
  refine Ev_const rfl ?_
  refine Ev_iast rfl rfl (by unfold vp_in; decide) ?_
  refine Ev_st (ρ' := r624) (σ' := s624) rfl rfl ?_
  refine Ev_dup rfl (fun _ q => nomatch q) ?_
  refine Ev_const rfl ?_
  refine Ev_const rfl ?_
  refine Ev_iast rfl rfl (by unfold vp_in; decide) ?_
  refine Ev_st (ρ' := r625) (σ' := s625) rfl rfl ?_
  refine Ev_dup rfl (fun _ q => nomatch q) ?_
  refine Ev_const rfl ?_
  refine Ev_const rfl ?_
  refine Ev_iast rfl rfl (by unfold vp_in; decide) ?_
  refine Ev_st (ρ' := r626) (σ' := s626) rfl rfl ?_
  refine Ev_dup rfl (fun _ q => nomatch q) ?_
  refine Ev_const rfl ?_
  refine Ev_const rfl ?_
  refine Ev_iast rfl rfl (by unfold vp_in; decide) ?_
  refine Ev_st (ρ' := r627) (σ' := s627) rfl rfl ?_
  refine Ev_putR rfl rfl (fun _ => ⟨rfl, rfl⟩) (Or.inr ⟨rfl, rfl, rfl⟩) ?_
  refine Ev_st (ρ' := r628) (σ' := s628) rfl rfl ?_
  refine Ev_aload rfl rfl rfl ?_
  refine Ev_const rfl ?_
  refine Ev_newa rfl (by decide) rfl ⟨by decide, by decide⟩ ?_
  refine Ev_st (ρ' := r629) (σ' := s629) rfl rfl ?_
  refine Ev_putR rfl rfl (fun _ => ⟨rfl, rfl⟩) (Or.inr ⟨rfl, rfl, rfl⟩) ?_
  refine Ev_st (ρ' := r630) (σ' := s630) rfl rfl ?_
  refine Ev_aload rfl rfl rfl ?_
  refine Ev_const rfl ?_
  refine Ev_newa rfl (by decide) rfl ⟨by decide, by decide⟩ ?_
  refine Ev_st (ρ' := r631) (σ' := s631) rfl rfl ?_
  refine Ev_putR rfl rfl (fun _ => ⟨rfl, rfl⟩) (Or.inr ⟨rfl, rfl, rfl⟩) ?_
  refine Ev_st (ρ' := r632) (σ' := s632) rfl rfl ?_
  refine Ev_aload rfl rfl rfl ?_
  refine Ev_const rfl ?_
  refine Ev_newa rfl (by decide) rfl ⟨by decide, by decide⟩ ?_
  refine Ev_st (ρ' := r633) (σ' := s633) rfl rfl ?_
  refine Ev_putR rfl rfl (fun _ => ⟨rfl, rfl⟩) (Or.inr ⟨rfl, rfl, rfl⟩) ?_
  refine Ev_st (ρ' := r634) (σ' := s634) rfl rfl ?_
  refine Ev_aload rfl rfl rfl ?_
  refine Ev_const rfl ?_
  refine Ev_newa rfl (by decide) rfl ⟨by decide, by decide⟩ ?_
  refine Ev_st (ρ' := r635) (σ' := s635) rfl rfl ?_
  refine Ev_putR rfl rfl (fun _ => ⟨rfl, rfl⟩) (Or.inr ⟨rfl, rfl, rfl⟩) ?_
  refine Ev_st (ρ' := r636) (σ' := s636) rfl rfl ?_
  refine Ev_aload rfl rfl rfl ?_
  refine Ev_const rfl ?_
  refine Ev_putI rfl rfl ⟨rfl, rfl⟩ rfl ?_
  refine Ev_st (ρ' := r637) (σ' := s637) rfl rfl ?_
  refine Ev_aload rfl rfl rfl ?_
  refine Ev_const rfl ?_
  refine Ev_newa rfl (by decide) rfl ⟨by decide, by decide⟩ ?_
  refine Ev_st (ρ' := r638) (σ' := s638) rfl rfl ?_
  refine Ev_putR rfl rfl (fun _ => ⟨rfl, rfl⟩) (Or.inr ⟨rfl, rfl, rfl⟩) ?_
  refine Ev_st (ρ' := r639) (σ' := s639) rfl rfl ?_
  refine Ev_aload rfl rfl rfl ?_
  refine Ev_const rfl ?_
  refine Ev_newa rfl (by decide) rfl ⟨by decide, by decide⟩ ?_
  refine Ev_st (ρ' := r640) (σ' := s640) rfl rfl ?_
  refine Ev_putR rfl rfl (fun _ => ⟨rfl, rfl⟩) (Or.inr ⟨rfl, rfl, rfl⟩) ?_
  refine Ev_st (ρ' := r641) (σ' := s641) rfl rfl ?_
  refine Ev_aload rfl rfl rfl ?_
  refine Ev_const rfl ?_
  refine Ev_newa rfl (by decide) rfl ⟨by decide, by decide⟩ ?_
  refine Ev_st (ρ' := r642) (σ' := s642) rfl rfl ?_
  refine Ev_putR rfl rfl (fun _ => ⟨rfl, rfl⟩) (Or.inr ⟨rfl, rfl, rfl⟩) ?_
  refine Ev_st (ρ' := r643) (σ' := s643) rfl rfl ?_
  refine Ev_aload rfl rfl rfl ?_
  refine Ev_const rfl ?_
  refine Ev_newa rfl (by decide) rfl ⟨by decide, by decide⟩ ?_
  refine Ev_st (ρ' := r644) (σ' := s644) rfl rfl ?_
  refine Ev_putR rfl rfl (fun _ => ⟨rfl, rfl⟩) (Or.inr ⟨rfl, rfl, rfl⟩) ?_
  refine Ev_st (ρ' := r645) (σ' := s645) rfl rfl ?_
  refine Ev_aload rfl rfl rfl ?_
  refine Ev_const rfl ?_
  refine Ev_newa rfl (by decide) rfl ⟨by decide, by decide⟩ ?_
  refine Ev_st (ρ' := r646) (σ' := s646) rfl rfl ?_
  refine Ev_putR rfl rfl (fun _ => ⟨rfl, rfl⟩) (Or.inr ⟨rfl, rfl, rfl⟩) ?_
  refine Ev_st (ρ' := r647) (σ' := s647) rfl rfl ?_
  refine Ev_aload rfl rfl rfl ?_
  refine Ev_const rfl ?_
  refine Ev_newa rfl (by decide) rfl ⟨by decide, by decide⟩ ?_
  refine Ev_st (ρ' := r648) (σ' := s648) rfl rfl ?_
  refine Ev_putR rfl rfl (fun _ => ⟨rfl, rfl⟩) (Or.inr ⟨rfl, rfl, rfl⟩) ?_
  refine Ev_st (ρ' := r649) (σ' := s649) rfl rfl ?_
  refine Ev_aload rfl rfl rfl ?_
  refine Ev_const rfl ?_
  refine Ev_newa rfl (by decide) rfl ⟨by decide, by decide⟩ ?_
  refine Ev_st (ρ' := r650) (σ' := s650) rfl rfl ?_
  refine Ev_putR rfl rfl (fun _ => ⟨rfl, rfl⟩) (Or.inr ⟨rfl, rfl, rfl⟩) ?_
  refine Ev_st (ρ' := r651) (σ' := s651) rfl rfl ?_
  refine Ev_aload rfl rfl rfl ?_
  refine Ev_const rfl ?_
  refine Ev_newa rfl (by decide) rfl ⟨by decide, by decide⟩ ?_
  refine Ev_st (ρ' := r652) (σ' := s652) rfl rfl ?_
  refine Ev_putR rfl rfl (fun _ => ⟨rfl, rfl⟩) (Or.inr ⟨rfl, rfl, rfl⟩) ?_
  refine Ev_st (ρ' := r653) (σ' := s653) rfl rfl ?_
  refine Ev_aload rfl rfl rfl ?_
  refine Ev_constL rfl ?_
  refine Ev_putL rfl rfl rfl rfl ?_
  refine Ev_st (ρ' := r654) (σ' := s654) rfl rfl ?_
  refine Ev_aload rfl rfl rfl ?_
  refine Ev_const rfl ?_
  refine Ev_newa rfl (by decide) rfl ⟨by decide, by decide⟩ ?_
  refine Ev_st (ρ' := r655) (σ' := s655) rfl rfl ?_
  refine Ev_dup rfl (fun _ q => nomatch q) ?_
  refine Ev_const rfl ?_
  refine Ev_const rfl ?_
  refine Ev_cast rfl rfl (by unfold vp_in; decide) ?_
  refine Ev_st (ρ' := r656) (σ' := s656) rfl rfl ?_
  refine Ev_dup rfl (fun _ q => nomatch q) ?_
  refine Ev_const rfl ?_
  refine Ev_const rfl ?_
  refine Ev_cast rfl rfl (by unfold vp_in; decide) ?_
  refine Ev_st (ρ' := r657) (σ' := s657) rfl rfl ?_
  refine Ev_dup rfl (fun _ q => nomatch q) ?_
  refine Ev_const rfl ?_
  refine Ev_const rfl ?_
  refine Ev_cast rfl rfl (by unfold vp_in; decide) ?_
  refine Ev_st (ρ' := r658) (σ' := s658) rfl rfl ?_
  refine Ev_dup rfl (fun _ q => nomatch q) ?_
  refine Ev_const rfl ?_
  refine Ev_const rfl ?_
  refine Ev_cast rfl rfl (by unfold vp_in; decide) ?_
  refine Ev_st (ρ' := r659) (σ' := s659) rfl rfl ?_
  refine Ev_dup rfl (fun _ q => nomatch q) ?_
  refine Ev_const rfl ?_
  refine Ev_const rfl ?_
  refine Ev_cast rfl rfl (by unfold vp_in; decide) ?_
  refine Ev_st (ρ' := r660) (σ' := s660) rfl rfl ?_
  refine Ev_putR rfl rfl (fun _ => ⟨rfl, rfl⟩) (Or.inr ⟨rfl, rfl, rfl⟩) ?_
  refine Ev_st (ρ' := r661) (σ' := s661) rfl rfl ?_
  refine Ev_aload rfl rfl rfl ?_
  refine Ev_const rfl ?_
  refine Ev_newa rfl (by decide) rfl ⟨by decide, by decide⟩ ?_
  refine Ev_st (ρ' := r662) (σ' := s662) rfl rfl ?_
  refine Ev_dup rfl (fun _ q => nomatch q) ?_
  refine Ev_const rfl ?_
  refine Ev_const rfl ?_
  refine Ev_cast rfl rfl (by unfold vp_in; decide) ?_
  refine Ev_st (ρ' := r663) (σ' := s663) rfl rfl ?_
  refine Ev_dup rfl (fun _ q => nomatch q) ?_
  refine Ev_const rfl ?_
  refine Ev_const rfl ?_
  refine Ev_cast rfl rfl (by unfold vp_in; decide) ?_
  refine Ev_st (ρ' := r664) (σ' := s664) rfl rfl ?_
  refine Ev_dup rfl (fun _ q => nomatch q) ?_
  refine Ev_const rfl ?_
  refine Ev_const rfl ?_
  refine Ev_cast rfl rfl (by unfold vp_in; decide) ?_
  refine Ev_st (ρ' := r665) (σ' := s665) rfl rfl ?_
  refine Ev_dup rfl (fun _ q => nomatch q) ?_
  refine Ev_const rfl ?_
  refine Ev_const rfl ?_
  refine Ev_cast rfl rfl (by unfold vp_in; decide) ?_
  refine Ev_st (ρ' := r666) (σ' := s666) rfl rfl ?_
  refine Ev_putR rfl rfl (fun _ => ⟨rfl, rfl⟩) (Or.inr ⟨rfl, rfl, rfl⟩) ?_
  refine Ev_st (ρ' := r667) (σ' := s667) rfl rfl ?_
  refine Ev_aload rfl rfl rfl ?_
  refine Ev_const rfl ?_
  refine Ev_newa rfl (by decide) rfl ⟨by decide, by decide⟩ ?_
  refine Ev_st (ρ' := r668) (σ' := s668) rfl rfl ?_
  refine Ev_dup rfl (fun _ q => nomatch q) ?_
  refine Ev_const rfl ?_
  refine Ev_const rfl ?_
  refine Ev_cast rfl rfl (by unfold vp_in; decide) ?_
  refine Ev_st (ρ' := r669) (σ' := s669) rfl rfl ?_
  refine Ev_dup rfl (fun _ q => nomatch q) ?_
  refine Ev_const rfl ?_
  refine Ev_const rfl ?_
  refine Ev_cast rfl rfl (by unfold vp_in; decide) ?_
  refine Ev_st (ρ' := r670) (σ' := s670) rfl rfl ?_
  refine Ev_dup rfl (fun _ q => nomatch q) ?_
  refine Ev_const rfl ?_
  refine Ev_const rfl ?_
  refine Ev_cast rfl rfl (by unfold vp_in; decide) ?_
  refine Ev_st (ρ' := r671) (σ' := s671) rfl rfl ?_
  refine Ev_dup rfl (fun _ q => nomatch q) ?_
  refine Ev_const rfl ?_
  refine Ev_const rfl ?_
  refine Ev_cast rfl rfl (by unfold vp_in; decide) ?_
  refine Ev_st (ρ' := r672) (σ' := s672) rfl rfl ?_
  refine Ev_dup rfl (fun _ q => nomatch q) ?_
  refine Ev_const rfl ?_
  refine Ev_const rfl ?_
  refine Ev_cast rfl rfl (by unfold vp_in; decide) ?_
  refine Ev_st (ρ' := r673) (σ' := s673) rfl rfl ?_
  refine Ev_putR rfl rfl (fun _ => ⟨rfl, rfl⟩) (Or.inr ⟨rfl, rfl, rfl⟩) ?_
  refine Ev_st (ρ' := r674) (σ' := s674) rfl rfl ?_
  refine Ev_aload rfl rfl rfl ?_
  refine Ev_const rfl ?_
  refine Ev_newa rfl (by decide) rfl ⟨by decide, by decide⟩ ?_
  refine Ev_st (ρ' := r675) (σ' := s675) rfl rfl ?_
  refine Ev_dup rfl (fun _ q => nomatch q) ?_
  refine Ev_const rfl ?_
  refine Ev_const rfl ?_
  refine Ev_cast rfl rfl (by unfold vp_in; decide) ?_
  refine Ev_st (ρ' := r676) (σ' := s676) rfl rfl ?_
  refine Ev_dup rfl (fun _ q => nomatch q) ?_
  refine Ev_const rfl ?_
  refine Ev_const rfl ?_
  refine Ev_cast rfl rfl (by unfold vp_in; decide) ?_
  refine Ev_st (ρ' := r677) (σ' := s677) rfl rfl ?_
  refine Ev_dup rfl (fun _ q => nomatch q) ?_
  refine Ev_const rfl ?_
  refine Ev_const rfl ?_
  refine Ev_cast rfl rfl (by unfold vp_in; decide) ?_
  refine Ev_st (ρ' := r678) (σ' := s678) rfl rfl ?_
  refine Ev_dup rfl (fun _ q => nomatch q) ?_
  refine Ev_const rfl ?_
  refine Ev_const rfl ?_
  refine Ev_cast rfl rfl (by unfold vp_in; decide) ?_
  refine Ev_st (ρ' := r679) (σ' := s679) rfl rfl ?_
  refine Ev_dup rfl (fun _ q => nomatch q) ?_
  refine Ev_const rfl ?_
  refine Ev_const rfl ?_
  refine Ev_cast rfl rfl (by unfold vp_in; decide) ?_
  refine Ev_st (ρ' := r680) (σ' := s680) rfl rfl ?_
  refine Ev_putR rfl rfl (fun _ => ⟨rfl, rfl⟩) (Or.inr ⟨rfl, rfl, rfl⟩) ?_
  refine Ev_st (ρ' := r681) (σ' := s681) rfl rfl ?_
  refine Ev_aload rfl rfl rfl ?_
  refine Ev_const rfl ?_
  refine Ev_newa rfl (by decide) rfl ⟨by decide, by decide⟩ ?_
  refine Ev_st (ρ' := r682) (σ' := s682) rfl rfl ?_
  refine Ev_dup rfl (fun _ q => nomatch q) ?_
  refine Ev_const rfl ?_
  refine Ev_const rfl ?_
  refine Ev_cast rfl rfl (by unfold vp_in; decide) ?_
  refine Ev_st (ρ' := r683) (σ' := s683) rfl rfl ?_
  refine Ev_dup rfl (fun _ q => nomatch q) ?_
  refine Ev_const rfl ?_
  refine Ev_const rfl ?_
  refine Ev_cast rfl rfl (by unfold vp_in; decide) ?_
  refine Ev_st (ρ' := r684) (σ' := s684) rfl rfl ?_
  refine Ev_dup rfl (fun _ q => nomatch q) ?_
  refine Ev_const rfl ?_
  refine Ev_const rfl ?_
  refine Ev_cast rfl rfl (by unfold vp_in; decide) ?_
  refine Ev_st (ρ' := r685) (σ' := s685) rfl rfl ?_
  refine Ev_dup rfl (fun _ q => nomatch q) ?_
  refine Ev_const rfl ?_
  refine Ev_const rfl ?_
  refine Ev_cast rfl rfl (by unfold vp_in; decide) ?_
  refine Ev_st (ρ' := r686) (σ' := s686) rfl rfl ?_
  refine Ev_putR rfl rfl (fun _ => ⟨rfl, rfl⟩) (Or.inr ⟨rfl, rfl, rfl⟩) ?_
  refine Ev_st (ρ' := r687) (σ' := s687) rfl rfl ?_
  refine Ev_aload rfl rfl rfl ?_
  refine Ev_const rfl ?_
  refine Ev_newa rfl (by decide) rfl ⟨by decide, by decide⟩ ?_
  refine Ev_st (ρ' := r688) (σ' := s688) rfl rfl ?_
  refine Ev_dup rfl (fun _ q => nomatch q) ?_
  refine Ev_const rfl ?_
  refine Ev_const rfl ?_
  refine Ev_cast rfl rfl (by unfold vp_in; decide) ?_
  refine Ev_st (ρ' := r689) (σ' := s689) rfl rfl ?_
  refine Ev_dup rfl (fun _ q => nomatch q) ?_
  refine Ev_const rfl ?_
  refine Ev_const rfl ?_
  refine Ev_cast rfl rfl (by unfold vp_in; decide) ?_
  refine Ev_st (ρ' := r690) (σ' := s690) rfl rfl ?_
  refine Ev_dup rfl (fun _ q => nomatch q) ?_
  refine Ev_const rfl ?_
  refine Ev_const rfl ?_
  refine Ev_cast rfl rfl (by unfold vp_in; decide) ?_
  refine Ev_st (ρ' := r691) (σ' := s691) rfl rfl ?_
  refine Ev_dup rfl (fun _ q => nomatch q) ?_
  refine Ev_const rfl ?_
  refine Ev_const rfl ?_
  refine Ev_cast rfl rfl (by unfold vp_in; decide) ?_
  refine Ev_st (ρ' := r692) (σ' := s692) rfl rfl ?_
  refine Ev_dup rfl (fun _ q => nomatch q) ?_
  refine Ev_const rfl ?_
  refine Ev_const rfl ?_
  refine Ev_cast rfl rfl (by unfold vp_in; decide) ?_
  refine Ev_st (ρ' := r693) (σ' := s693) rfl rfl ?_
  refine Ev_putR rfl rfl (fun _ => ⟨rfl, rfl⟩) (Or.inr ⟨rfl, rfl, rfl⟩) ?_
  refine Ev_st (ρ' := r694) (σ' := s694) rfl rfl ?_
  refine Ev_aload rfl rfl rfl ?_
  refine Ev_const rfl ?_
  refine Ev_newa rfl (by decide) rfl ⟨by decide, by decide⟩ ?_
  refine Ev_st (ρ' := r695) (σ' := s695) rfl rfl ?_
  refine Ev_dup rfl (fun _ q => nomatch q) ?_
  refine Ev_const rfl ?_
  refine Ev_const rfl ?_
  refine Ev_cast rfl rfl (by unfold vp_in; decide) ?_
  refine Ev_st (ρ' := r696) (σ' := s696) rfl rfl ?_
  refine Ev_dup rfl (fun _ q => nomatch q) ?_
  refine Ev_const rfl ?_
  refine Ev_const rfl ?_
  refine Ev_cast rfl rfl (by unfold vp_in; decide) ?_
  refine Ev_st (ρ' := r697) (σ' := s697) rfl rfl ?_
  refine Ev_dup rfl (fun _ q => nomatch q) ?_
  refine Ev_const rfl ?_
  refine Ev_const rfl ?_
  refine Ev_cast rfl rfl (by unfold vp_in; decide) ?_
  refine Ev_st (ρ' := r698) (σ' := s698) rfl rfl ?_
  refine Ev_putR rfl rfl (fun _ => ⟨rfl, rfl⟩) (Or.inr ⟨rfl, rfl, rfl⟩) ?_
  refine Ev_st (ρ' := r699) (σ' := s699) rfl rfl ?_
  refine Ev_aload rfl rfl rfl ?_
  refine Ev_const rfl ?_
  refine Ev_newa rfl (by decide) rfl ⟨by decide, by decide⟩ ?_
  refine Ev_st (ρ' := r700) (σ' := s700) rfl rfl ?_
  refine Ev_dup rfl (fun _ q => nomatch q) ?_
  refine Ev_const rfl ?_
  refine Ev_const rfl ?_
  refine Ev_cast rfl rfl (by unfold vp_in; decide) ?_
  refine Ev_st (ρ' := r701) (σ' := s701) rfl rfl ?_
  refine Ev_dup rfl (fun _ q => nomatch q) ?_
  refine Ev_const rfl ?_
  refine Ev_const rfl ?_
  refine Ev_cast rfl rfl (by unfold vp_in; decide) ?_
  refine Ev_st (ρ' := r702) (σ' := s702) rfl rfl ?_
  refine Ev_dup rfl (fun _ q => nomatch q) ?_
  refine Ev_const rfl ?_
  refine Ev_const rfl ?_
  refine Ev_cast rfl rfl (by unfold vp_in; decide) ?_
  refine Ev_st (ρ' := r703) (σ' := s703) rfl rfl ?_
  refine Ev_putR rfl rfl (fun _ => ⟨rfl, rfl⟩) (Or.inr ⟨rfl, rfl, rfl⟩) ?_
  refine Ev_st (ρ' := r704) (σ' := s704) rfl rfl ?_
  refine Ev_aload rfl rfl rfl ?_
  refine Ev_const rfl ?_
  refine Ev_newa rfl (by decide) rfl ⟨by decide, by decide⟩ ?_
  refine Ev_st (ρ' := r705) (σ' := s705) rfl rfl ?_
  refine Ev_dup rfl (fun _ q => nomatch q) ?_
  refine Ev_const rfl ?_
  refine Ev_const rfl ?_
  refine Ev_cast rfl rfl (by unfold vp_in; decide) ?_
  refine Ev_st (ρ' := r706) (σ' := s706) rfl rfl ?_
  refine Ev_dup rfl (fun _ q => nomatch q) ?_
  refine Ev_const rfl ?_
  refine Ev_const rfl ?_
  refine Ev_cast rfl rfl (by unfold vp_in; decide) ?_
  refine Ev_st (ρ' := r707) (σ' := s707) rfl rfl ?_
  refine Ev_putR rfl rfl (fun _ => ⟨rfl, rfl⟩) (Or.inr ⟨rfl, rfl, rfl⟩) ?_
  refine Ev_st (ρ' := r708) (σ' := s708) rfl rfl ?_
  refine Ev_aload rfl rfl rfl ?_
  refine Ev_const rfl ?_
  refine Ev_newa rfl (by decide) rfl ⟨by decide, by decide⟩ ?_
  refine Ev_st (ρ' := r709) (σ' := s709) rfl rfl ?_
  refine Ev_dup rfl (fun _ q => nomatch q) ?_
  refine Ev_const rfl ?_
  refine Ev_const rfl ?_
  refine Ev_cast rfl rfl (by unfold vp_in; decide) ?_
  refine Ev_st (ρ' := r710) (σ' := s710) rfl rfl ?_
  refine Ev_dup rfl (fun _ q => nomatch q) ?_
  refine Ev_const rfl ?_
  refine Ev_const rfl ?_
  refine Ev_cast rfl rfl (by unfold vp_in; decide) ?_
  refine Ev_st (ρ' := r711) (σ' := s711) rfl rfl ?_
  refine Ev_dup rfl (fun _ q => nomatch q) ?_
  refine Ev_const rfl ?_
  refine Ev_const rfl ?_
  refine Ev_cast rfl rfl (by unfold vp_in; decide) ?_
  refine Ev_st (ρ' := r712) (σ' := s712) rfl rfl ?_
  refine Ev_putR rfl rfl (fun _ => ⟨rfl, rfl⟩) (Or.inr ⟨rfl, rfl, rfl⟩) ?_
  refine Ev_st (ρ' := r713) (σ' := s713) rfl rfl ?_
  refine Ev_aload rfl rfl rfl ?_
  refine Ev_const rfl ?_
  refine Ev_newa rfl (by decide) rfl ⟨by decide, by decide⟩ ?_
  refine Ev_st (ρ' := r714) (σ' := s714) rfl rfl ?_
  refine Ev_dup rfl (fun _ q => nomatch q) ?_
  refine Ev_const rfl ?_
  refine Ev_const rfl ?_
  refine Ev_cast rfl rfl (by unfold vp_in; decide) ?_
  refine Ev_st (ρ' := r715) (σ' := s715) rfl rfl ?_
  refine Ev_dup rfl (fun _ q => nomatch q) ?_
  refine Ev_const rfl ?_
  refine Ev_const rfl ?_
  refine Ev_cast rfl rfl (by unfold vp_in; decide) ?_
  refine Ev_st (ρ' := r716) (σ' := s716) rfl rfl ?_
  refine Ev_dup rfl (fun _ q => nomatch q) ?_
  refine Ev_const rfl ?_
  refine Ev_const rfl ?_
  refine Ev_cast rfl rfl (by unfold vp_in; decide) ?_
  refine Ev_st (ρ' := r717) (σ' := s717) rfl rfl ?_
  refine Ev_putR rfl rfl (fun _ => ⟨rfl, rfl⟩) (Or.inr ⟨rfl, rfl, rfl⟩) ?_
  refine Ev_st (ρ' := r718) (σ' := s718) rfl rfl ?_
  refine Ev_aload rfl rfl rfl ?_
  refine Ev_const rfl ?_
  refine Ev_newa rfl (by decide) rfl ⟨by decide, by decide⟩ ?_
  refine Ev_st (ρ' := r719) (σ' := s719) rfl rfl ?_
  refine Ev_dup rfl (fun _ q => nomatch q) ?_
  refine Ev_const rfl ?_
  refine Ev_const rfl ?_
  refine Ev_cast rfl rfl (by unfold vp_in; decide) ?_
  refine Ev_st (ρ' := r720) (σ' := s720) rfl rfl ?_
  refine Ev_dup rfl (fun _ q => nomatch q) ?_
  refine Ev_const rfl ?_
  refine Ev_const rfl ?_
  refine Ev_cast rfl rfl (by unfold vp_in; decide) ?_
  refine Ev_st (ρ' := r721) (σ' := s721) rfl rfl ?_
  refine Ev_dup rfl (fun _ q => nomatch q) ?_
  refine Ev_const rfl ?_
  refine Ev_const rfl ?_
  refine Ev_cast rfl rfl (by unfold vp_in; decide) ?_
  refine Ev_st (ρ' := r722) (σ' := s722) rfl rfl ?_
  refine Ev_putR rfl rfl (fun _ => ⟨rfl, rfl⟩) (Or.inr ⟨rfl, rfl, rfl⟩) ?_
  refine Ev_st (ρ' := r723) (σ' := s723) rfl rfl ?_
  refine Ev_aload rfl rfl rfl ?_
  refine Ev_const rfl ?_
  refine Ev_newa rfl (by decide) rfl ⟨by decide, by decide⟩ ?_
  refine Ev_st (ρ' := r724) (σ' := s724) rfl rfl ?_
  refine Ev_dup rfl (fun _ q => nomatch q) ?_
  refine Ev_const rfl ?_
  refine Ev_const rfl ?_
  refine Ev_cast rfl rfl (by unfold vp_in; decide) ?_
  refine Ev_st (ρ' := r725) (σ' := s725) rfl rfl ?_
  refine Ev_dup rfl (fun _ q => nomatch q) ?_
  refine Ev_const rfl ?_
  refine Ev_const rfl ?_
  refine Ev_cast rfl rfl (by unfold vp_in; decide) ?_
  refine Ev_st (ρ' := r726) (σ' := s726) rfl rfl ?_
  refine Ev_dup rfl (fun _ q => nomatch q) ?_
  refine Ev_const rfl ?_
  refine Ev_const rfl ?_
  refine Ev_cast rfl rfl (by unfold vp_in; decide) ?_
  refine Ev_st (ρ' := r727) (σ' := s727) rfl rfl ?_
  refine Ev_dup rfl (fun _ q => nomatch q) ?_
  refine Ev_const rfl ?_
  refine Ev_const rfl ?_
  refine Ev_cast rfl rfl (by unfold vp_in; decide) ?_
  refine Ev_st (ρ' := r728) (σ' := s728) rfl rfl ?_
  refine Ev_putR rfl rfl (fun _ => ⟨rfl, rfl⟩) (Or.inr ⟨rfl, rfl, rfl⟩) ?_
  refine Ev_st (ρ' := r729) (σ' := s729) rfl rfl ?_
  refine Ev_aload rfl rfl rfl ?_
  refine Ev_const rfl ?_
  refine Ev_newa rfl (by decide) rfl ⟨by decide, by decide⟩ ?_
  refine Ev_st (ρ' := r730) (σ' := s730) rfl rfl ?_
  refine Ev_dup rfl (fun _ q => nomatch q) ?_
  refine Ev_const rfl ?_
  refine Ev_const rfl ?_
  refine Ev_cast rfl rfl (by unfold vp_in; decide) ?_
  refine Ev_st (ρ' := r731) (σ' := s731) rfl rfl ?_
  refine Ev_dup rfl (fun _ q => nomatch q) ?_
  refine Ev_const rfl ?_
  refine Ev_const rfl ?_
  refine Ev_cast rfl rfl (by unfold vp_in; decide) ?_
  refine Ev_st (ρ' := r732) (σ' := s732) rfl rfl ?_
  refine Ev_dup rfl (fun _ q => nomatch q) ?_
  refine Ev_const rfl ?_
  refine Ev_const rfl ?_
  refine Ev_cast rfl rfl (by unfold vp_in; decide) ?_
  refine Ev_st (ρ' := r733) (σ' := s733) rfl rfl ?_
  refine Ev_dup rfl (fun _ q => nomatch q) ?_
  refine Ev_const rfl ?_
  refine Ev_const rfl ?_
  refine Ev_cast rfl rfl (by unfold vp_in; decide) ?_
  refine Ev_st (ρ' := r734) (σ' := s734) rfl rfl ?_
  refine Ev_dup rfl (fun _ q => nomatch q) ?_
  refine Ev_const rfl ?_
  refine Ev_const rfl ?_
  refine Ev_cast rfl rfl (by unfold vp_in; decide) ?_
  refine Ev_st (ρ' := r735) (σ' := s735) rfl rfl ?_
  refine Ev_putR rfl rfl (fun _ => ⟨rfl, rfl⟩) (Or.inr ⟨rfl, rfl, rfl⟩) ?_
  refine Ev_st (ρ' := r736) (σ' := s736) rfl rfl ?_
  refine Ev_aload rfl rfl rfl ?_
  refine Ev_const rfl ?_
  refine Ev_newa rfl (by decide) rfl ⟨by decide, by decide⟩ ?_
  refine Ev_st (ρ' := r737) (σ' := s737) rfl rfl ?_
  refine Ev_dup rfl (fun _ q => nomatch q) ?_
  refine Ev_const rfl ?_
  refine Ev_const rfl ?_
  refine Ev_cast rfl rfl (by unfold vp_in; decide) ?_
  refine Ev_st (ρ' := r738) (σ' := s738) rfl rfl ?_
  refine Ev_dup rfl (fun _ q => nomatch q) ?_
  refine Ev_const rfl ?_
  refine Ev_const rfl ?_
  refine Ev_cast rfl rfl (by unfold vp_in; decide) ?_
  refine Ev_st (ρ' := r739) (σ' := s739) rfl rfl ?_
  refine Ev_dup rfl (fun _ q => nomatch q) ?_
  refine Ev_const rfl ?_
  refine Ev_const rfl ?_
  refine Ev_cast rfl rfl (by unfold vp_in; decide) ?_
  refine Ev_st (ρ' := r740) (σ' := s740) rfl rfl ?_
  refine Ev_dup rfl (fun _ q => nomatch q) ?_
  refine Ev_const rfl ?_
  refine Ev_const rfl ?_
  refine Ev_cast rfl rfl (by unfold vp_in; decide) ?_
  refine Ev_st (ρ' := r741) (σ' := s741) rfl rfl ?_
  refine Ev_putR rfl rfl (fun _ => ⟨rfl, rfl⟩) (Or.inr ⟨rfl, rfl, rfl⟩) ?_
  refine Ev_st (ρ' := r742) (σ' := s742) rfl rfl ?_
  refine Ev_aload rfl rfl rfl ?_
  refine Ev_const rfl ?_
  refine Ev_newa rfl (by decide) rfl ⟨by decide, by decide⟩ ?_
  refine Ev_st (ρ' := r743) (σ' := s743) rfl rfl ?_
  refine Ev_dup rfl (fun _ q => nomatch q) ?_
  refine Ev_const rfl ?_
  refine Ev_const rfl ?_
  refine Ev_cast rfl rfl (by unfold vp_in; decide) ?_
  refine Ev_st (ρ' := r744) (σ' := s744) rfl rfl ?_
  refine Ev_dup rfl (fun _ q => nomatch q) ?_
  refine Ev_const rfl ?_
  refine Ev_const rfl ?_
  refine Ev_cast rfl rfl (by unfold vp_in; decide) ?_
  refine Ev_st (ρ' := r745) (σ' := s745) rfl rfl ?_
  refine Ev_dup rfl (fun _ q => nomatch q) ?_
  refine Ev_const rfl ?_
  refine Ev_const rfl ?_
  refine Ev_cast rfl rfl (by unfold vp_in; decide) ?_
  refine Ev_st (ρ' := r746) (σ' := s746) rfl rfl ?_
  refine Ev_dup rfl (fun _ q => nomatch q) ?_
  refine Ev_const rfl ?_
  refine Ev_const rfl ?_
  refine Ev_cast rfl rfl (by unfold vp_in; decide) ?_
  refine Ev_st (ρ' := r747) (σ' := s747) rfl rfl ?_
  refine Ev_dup rfl (fun _ q => nomatch q) ?_
  refine Ev_const rfl ?_
  refine Ev_const rfl ?_
  refine Ev_cast rfl rfl (by unfold vp_in; decide) ?_
  refine Ev_st (ρ' := r748) (σ' := s748) rfl rfl ?_
  refine Ev_putR rfl rfl (fun _ => ⟨rfl, rfl⟩) (Or.inr ⟨rfl, rfl, rfl⟩) ?_
  refine Ev_st (ρ' := r749) (σ' := s749) rfl rfl ?_
  refine Ev_aload rfl rfl rfl ?_
  refine Ev_const rfl ?_
  refine Ev_newa rfl (by decide) rfl ⟨by decide, by decide⟩ ?_
  refine Ev_st (ρ' := r750) (σ' := s750) rfl rfl ?_
  refine Ev_dup rfl (fun _ q => nomatch q) ?_
  refine Ev_const rfl ?_
  refine Ev_const rfl ?_
  refine Ev_cast rfl rfl (by unfold vp_in; decide) ?_
  refine Ev_st (ρ' := r751) (σ' := s751) rfl rfl ?_
  refine Ev_dup rfl (fun _ q => nomatch q) ?_
  refine Ev_const rfl ?_
  refine Ev_const rfl ?_
  refine Ev_cast rfl rfl (by unfold vp_in; decide) ?_
  refine Ev_st (ρ' := r752) (σ' := s752) rfl rfl ?_
  refine Ev_dup rfl (fun _ q => nomatch q) ?_
  refine Ev_const rfl ?_
  refine Ev_const rfl ?_
  refine Ev_cast rfl rfl (by unfold vp_in; decide) ?_
  refine Ev_st (ρ' := r753) (σ' := s753) rfl rfl ?_
  refine Ev_dup rfl (fun _ q => nomatch q) ?_
  refine Ev_const rfl ?_
  refine Ev_const rfl ?_
  refine Ev_cast rfl rfl (by unfold vp_in; decide) ?_
  refine Ev_st (ρ' := r754) (σ' := s754) rfl rfl ?_
  refine Ev_putR rfl rfl (fun _ => ⟨rfl, rfl⟩) (Or.inr ⟨rfl, rfl, rfl⟩) ?_
  refine Ev_st (ρ' := r755) (σ' := s755) rfl rfl ?_
  refine Ev_aload rfl rfl rfl ?_
  refine Ev_const rfl ?_
  refine Ev_newa rfl (by decide) rfl ⟨by decide, by decide⟩ ?_
  refine Ev_st (ρ' := r756) (σ' := s756) rfl rfl ?_
  refine Ev_dup rfl (fun _ q => nomatch q) ?_
  refine Ev_const rfl ?_
  refine Ev_const rfl ?_
  refine Ev_cast rfl rfl (by unfold vp_in; decide) ?_
  refine Ev_st (ρ' := r757) (σ' := s757) rfl rfl ?_
  refine Ev_dup rfl (fun _ q => nomatch q) ?_
  refine Ev_const rfl ?_
  refine Ev_const rfl ?_
  refine Ev_cast rfl rfl (by unfold vp_in; decide) ?_
  refine Ev_st (ρ' := r758) (σ' := s758) rfl rfl ?_
  refine Ev_dup rfl (fun _ q => nomatch q) ?_
  refine Ev_const rfl ?_
  refine Ev_const rfl ?_
  refine Ev_cast rfl rfl (by unfold vp_in; decide) ?_
  refine Ev_st (ρ' := r759) (σ' := s759) rfl rfl ?_
  refine Ev_dup rfl (fun _ q => nomatch q) ?_
  refine Ev_const rfl ?_
  refine Ev_const rfl ?_
  refine Ev_cast rfl rfl (by unfold vp_in; decide) ?_
  refine Ev_st (ρ' := r760) (σ' := s760) rfl rfl ?_
  refine Ev_putR rfl rfl (fun _ => ⟨rfl, rfl⟩) (Or.inr ⟨rfl, rfl, rfl⟩) ?_
  refine Ev_st (ρ' := r761) (σ' := s761) rfl rfl ?_
  refine Ev_aload rfl rfl rfl ?_
  refine Ev_const rfl ?_
  refine Ev_newa rfl (by decide) rfl ⟨by decide, by decide⟩ ?_
  refine Ev_st (ρ' := r762) (σ' := s762) rfl rfl ?_
  refine Ev_dup rfl (fun _ q => nomatch q) ?_
  refine Ev_const rfl ?_
  refine Ev_const rfl ?_
  refine Ev_cast rfl rfl (by unfold vp_in; decide) ?_
  refine Ev_st (ρ' := r763) (σ' := s763) rfl rfl ?_
  refine Ev_dup rfl (fun _ q => nomatch q) ?_
  refine Ev_const rfl ?_
  refine Ev_const rfl ?_
  refine Ev_cast rfl rfl (by unfold vp_in; decide) ?_
  refine Ev_st (ρ' := r764) (σ' := s764) rfl rfl ?_
  refine Ev_dup rfl (fun _ q => nomatch q) ?_
  refine Ev_const rfl ?_
  refine Ev_const rfl ?_
  refine Ev_cast rfl rfl (by unfold vp_in; decide) ?_
  refine Ev_st (ρ' := r765) (σ' := s765) rfl rfl ?_
  refine Ev_dup rfl (fun _ q => nomatch q) ?_
  refine Ev_const rfl ?_
  refine Ev_const rfl ?_
  refine Ev_cast rfl rfl (by unfold vp_in; decide) ?_
  refine Ev_st (ρ' := r766) (σ' := s766) rfl rfl ?_
  refine Ev_dup rfl (fun _ q => nomatch q) ?_
  refine Ev_const rfl ?_
  refine Ev_const rfl ?_
  refine Ev_cast rfl rfl (by unfold vp_in; decide) ?_
  refine Ev_st (ρ' := r767) (σ' := s767) rfl rfl ?_
  refine Ev_dup rfl (fun _ q => nomatch q) ?_
  refine Ev_const rfl ?_
  refine Ev_const rfl ?_
  refine Ev_cast rfl rfl (by unfold vp_in; decide) ?_
  refine Ev_st (ρ' := r768) (σ' := s768) rfl rfl ?_
  refine Ev_dup rfl (fun _ q => nomatch q) ?_
  refine Ev_const rfl ?_
  refine Ev_const rfl ?_
  refine Ev_cast rfl rfl (by unfold vp_in; decide) ?_
  refine Ev_st (ρ' := r769) (σ' := s769) rfl rfl ?_
  refine Ev_dup rfl (fun _ q => nomatch q) ?_
  refine Ev_const rfl ?_
  refine Ev_const rfl ?_
  refine Ev_cast rfl rfl (by unfold vp_in; decide) ?_
  refine Ev_st (ρ' := r770) (σ' := s770) rfl rfl ?_
  refine Ev_putR rfl rfl (fun _ => ⟨rfl, rfl⟩) (Or.inr ⟨rfl, rfl, rfl⟩) ?_
  refine Ev_st (ρ' := r771) (σ' := s771) rfl rfl ?_
  refine Ev_aload rfl rfl rfl ?_
  refine Ev_const rfl ?_
  refine Ev_newa rfl (by decide) rfl ⟨by decide, by decide⟩ ?_
  refine Ev_st (ρ' := r772) (σ' := s772) rfl rfl ?_
  refine Ev_dup rfl (fun _ q => nomatch q) ?_
  refine Ev_const rfl ?_
  refine Ev_const rfl ?_
  refine Ev_cast rfl rfl (by unfold vp_in; decide) ?_
  refine Ev_st (ρ' := r773) (σ' := s773) rfl rfl ?_
  refine Ev_dup rfl (fun _ q => nomatch q) ?_
  refine Ev_const rfl ?_
  refine Ev_const rfl ?_
  refine Ev_cast rfl rfl (by unfold vp_in; decide) ?_
  refine Ev_st (ρ' := r774) (σ' := s774) rfl rfl ?_
  refine Ev_dup rfl (fun _ q => nomatch q) ?_
  refine Ev_const rfl ?_
  refine Ev_const rfl ?_
  refine Ev_cast rfl rfl (by unfold vp_in; decide) ?_
  refine Ev_st (ρ' := r775) (σ' := s775) rfl rfl ?_
  refine Ev_dup rfl (fun _ q => nomatch q) ?_
  refine Ev_const rfl ?_
  refine Ev_const rfl ?_
  refine Ev_cast rfl rfl (by unfold vp_in; decide) ?_
  refine Ev_st (ρ' := r776) (σ' := s776) rfl rfl ?_
  refine Ev_dup rfl (fun _ q => nomatch q) ?_
  refine Ev_const rfl ?_
  refine Ev_const rfl ?_
  refine Ev_cast rfl rfl (by unfold vp_in; decide) ?_
  refine Ev_st (ρ' := r777) (σ' := s777) rfl rfl ?_
  refine Ev_dup rfl (fun _ q => nomatch q) ?_
  refine Ev_const rfl ?_
  refine Ev_const rfl ?_
  refine Ev_cast rfl rfl (by unfold vp_in; decide) ?_
  refine Ev_st (ρ' := r778) (σ' := s778) rfl rfl ?_
  refine Ev_putR rfl rfl (fun _ => ⟨rfl, rfl⟩) (Or.inr ⟨rfl, rfl, rfl⟩) ?_
  refine Ev_st (ρ' := r779) (σ' := s779) rfl rfl ?_
  refine Ev_aload rfl rfl rfl ?_
  refine Ev_const rfl ?_
  refine Ev_newa rfl (by decide) rfl ⟨by decide, by decide⟩ ?_
  refine Ev_st (ρ' := r780) (σ' := s780) rfl rfl ?_
  refine Ev_dup rfl (fun _ q => nomatch q) ?_
  refine Ev_const rfl ?_
  refine Ev_const rfl ?_
  refine Ev_cast rfl rfl (by unfold vp_in; decide) ?_
  refine Ev_st (ρ' := r781) (σ' := s781) rfl rfl ?_
  refine Ev_dup rfl (fun _ q => nomatch q) ?_
  refine Ev_const rfl ?_
  refine Ev_const rfl ?_
  refine Ev_cast rfl rfl (by unfold vp_in; decide) ?_
  refine Ev_st (ρ' := r782) (σ' := s782) rfl rfl ?_
  refine Ev_dup rfl (fun _ q => nomatch q) ?_
  refine Ev_const rfl ?_
  refine Ev_const rfl ?_
  refine Ev_cast rfl rfl (by unfold vp_in; decide) ?_
  refine Ev_st (ρ' := r783) (σ' := s783) rfl rfl ?_
  refine Ev_dup rfl (fun _ q => nomatch q) ?_
  refine Ev_const rfl ?_
  refine Ev_const rfl ?_
  refine Ev_cast rfl rfl (by unfold vp_in; decide) ?_
  refine Ev_st (ρ' := r784) (σ' := s784) rfl rfl ?_
  refine Ev_dup rfl (fun _ q => nomatch q) ?_
  refine Ev_const rfl ?_
  refine Ev_const rfl ?_
  refine Ev_cast rfl rfl (by unfold vp_in; decide) ?_
  refine Ev_st (ρ' := r785) (σ' := s785) rfl rfl ?_
  refine Ev_dup rfl (fun _ q => nomatch q) ?_
  refine Ev_const rfl ?_
  refine Ev_const rfl ?_
  refine Ev_cast rfl rfl (by unfold vp_in; decide) ?_
  refine Ev_st (ρ' := r786) (σ' := s786) rfl rfl ?_
  refine Ev_putR rfl rfl (fun _ => ⟨rfl, rfl⟩) (Or.inr ⟨rfl, rfl, rfl⟩) ?_
  refine Ev_st (ρ' := r787) (σ' := s787) rfl rfl ?_
  refine Ev_aload rfl rfl rfl ?_
  refine Ev_const rfl ?_
  refine Ev_newa rfl (by decide) rfl ⟨by decide, by decide⟩ ?_
  refine Ev_st (ρ' := r788) (σ' := s788) rfl rfl ?_
  refine Ev_dup rfl (fun _ q => nomatch q) ?_
  refine Ev_const rfl ?_
  refine Ev_const rfl ?_
  refine Ev_cast rfl rfl (by unfold vp_in; decide) ?_
  refine Ev_st (ρ' := r789) (σ' := s789) rfl rfl ?_
  refine Ev_dup rfl (fun _ q => nomatch q) ?_
  refine Ev_const rfl ?_
  refine Ev_const rfl ?_
  refine Ev_cast rfl rfl (by unfold vp_in; decide) ?_
  refine Ev_st (ρ' := r790) (σ' := s790) rfl rfl ?_
  refine Ev_dup rfl (fun _ q => nomatch q) ?_
  refine Ev_const rfl ?_
  refine Ev_const rfl ?_
  refine Ev_cast rfl rfl (by unfold vp_in; decide) ?_
  refine Ev_st (ρ' := r791) (σ' := s791) rfl rfl ?_
  refine Ev_dup rfl (fun _ q => nomatch q) ?_
  refine Ev_const rfl ?_
  refine Ev_const rfl ?_
  refine Ev_cast rfl rfl (by unfold vp_in; decide) ?_
  refine Ev_st (ρ' := r792) (σ' := s792) rfl rfl ?_
  refine Ev_dup rfl (fun _ q => nomatch q) ?_
  refine Ev_const rfl ?_
  refine Ev_const rfl ?_
  refine Ev_cast rfl rfl (by unfold vp_in; decide) ?_
  refine Ev_st (ρ' := r793) (σ' := s793) rfl rfl ?_
  refine Ev_putR rfl rfl (fun _ => ⟨rfl, rfl⟩) (Or.inr ⟨rfl, rfl, rfl⟩) ?_
  refine Ev_st (ρ' := r794) (σ' := s794) rfl rfl ?_
  refine Ev_aload rfl rfl rfl ?_
  refine Ev_const rfl ?_
  refine Ev_newa rfl (by decide) rfl ⟨by decide, by decide⟩ ?_
  refine Ev_st (ρ' := r795) (σ' := s795) rfl rfl ?_
  refine Ev_dup rfl (fun _ q => nomatch q) ?_
  refine Ev_const rfl ?_
  refine Ev_const rfl ?_
  refine Ev_cast rfl rfl (by unfold vp_in; decide) ?_
  refine Ev_st (ρ' := r796) (σ' := s796) rfl rfl ?_
  refine Ev_dup rfl (fun _ q => nomatch q) ?_
  refine Ev_const rfl ?_
  refine Ev_const rfl ?_
  refine Ev_cast rfl rfl (by unfold vp_in; decide) ?_
  refine Ev_st (ρ' := r797) (σ' := s797) rfl rfl ?_
  refine Ev_dup rfl (fun _ q => nomatch q) ?_
  refine Ev_const rfl ?_
  refine Ev_const rfl ?_
  refine Ev_cast rfl rfl (by unfold vp_in; decide) ?_
  refine Ev_st (ρ' := r798) (σ' := s798) rfl rfl ?_
  refine Ev_dup rfl (fun _ q => nomatch q) ?_
  refine Ev_const rfl ?_
  refine Ev_const rfl ?_
  refine Ev_cast rfl rfl (by unfold vp_in; decide) ?_
  refine Ev_st (ρ' := r799) (σ' := s799) rfl rfl ?_
  refine Ev_dup rfl (fun _ q => nomatch q) ?_
  refine Ev_const rfl ?_
  refine Ev_const rfl ?_
  refine Ev_cast rfl rfl (by unfold vp_in; decide) ?_
  refine Ev_st (ρ' := r800) (σ' := s800) rfl rfl ?_
  refine Ev_putR rfl rfl (fun _ => ⟨rfl, rfl⟩) (Or.inr ⟨rfl, rfl, rfl⟩) ?_
  refine Ev_st (ρ' := r801) (σ' := s801) rfl rfl ?_
  refine Ev_aload rfl rfl rfl ?_
  refine Ev_const rfl ?_
  refine Ev_newa rfl (by decide) rfl ⟨by decide, by decide⟩ ?_
  refine Ev_st (ρ' := r802) (σ' := s802) rfl rfl ?_
  refine Ev_putR rfl rfl (fun _ => ⟨rfl, rfl⟩) (Or.inr ⟨rfl, rfl, rfl⟩) ?_
  refine Ev_st (ρ' := r803) (σ' := s803) rfl rfl ?_
  refine Ev_aload rfl rfl rfl ?_
  refine Ev_const rfl ?_
  refine Ev_newa rfl (by decide) rfl ⟨by decide, by decide⟩ ?_
  refine Ev_st (ρ' := r804) (σ' := s804) rfl rfl ?_
  refine Ev_putR rfl rfl (fun _ => ⟨rfl, rfl⟩) (Or.inr ⟨rfl, rfl, rfl⟩) ?_
  refine Ev_st (ρ' := r805) (σ' := s805) rfl rfl ?_
  refine Ev_aload rfl rfl rfl ?_
  refine Ev_const rfl ?_
  refine Ev_newa rfl (by decide) rfl ⟨by decide, by decide⟩ ?_
  refine Ev_st (ρ' := r806) (σ' := s806) rfl rfl ?_
  refine Ev_putR rfl rfl (fun _ => ⟨rfl, rfl⟩) (Or.inr ⟨rfl, rfl, rfl⟩) ?_
  refine Ev_st (ρ' := r807) (σ' := s807) rfl rfl ?_
  refine Ev_aload rfl rfl rfl ?_
  refine Ev_const rfl ?_
  refine Ev_newa rfl (by decide) rfl ⟨by decide, by decide⟩ ?_
  refine Ev_st (ρ' := r808) (σ' := s808) rfl rfl ?_
  refine Ev_putR rfl rfl (fun _ => ⟨rfl, rfl⟩) (Or.inr ⟨rfl, rfl, rfl⟩) ?_
  refine Ev_st (ρ' := r809) (σ' := s809) rfl rfl ?_
  exact Ev_return rfl rfl rfl ⟨rfl, rfl, rfl⟩
end EvK1

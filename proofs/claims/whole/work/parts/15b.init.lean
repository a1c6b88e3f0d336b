/-! The two constructors, run as they stand: part 2. -/
def r222 : Rf := sR r221 44 (va_up (r221 44) (4 : Int32).toNatClampNeg (some 89))
def s222 : St := s221
def r223 : Rf := sR r222 100 (fun _ => none)
def s223 : St := sL (sI s222 100 (fun _ => 0)) 100 (fun _ => 0)
def r224 : Rf := mR r223 101 6
def s224 : St := mS s223 101 6
def r225 : Rf := sR r224 100 (va_up (r224 100) 1 (some 101))
def s225 : St := s224
def r226 : Rf := sR r225 108 (fun _ => none)
def s226 : St := sL (sI s225 108 (fun _ => 0)) 108 (fun _ => 0)
def r227 : Rf := sR r226 100 (va_up (r226 100) 3 (some 108))
def s227 : St := s226
def r228 : Rf := sR r227 109 (fun _ => none)
def s228 : St := sL (sI s227 109 (fun _ => 0)) 109 (fun _ => 0)
def r229 : Rf := sR r228 100 (va_up (r228 100) 4 (some 109))
def s229 : St := s228
def r230 : Rf := sR r229 110 (fun _ => none)
def s230 : St := sL (sI s229 110 (fun _ => 0)) 110 (fun _ => 0)
def r231 : Rf := sR r230 100 (va_up (r230 100) 5 (some 110))
def s231 : St := s230
def r232 : Rf := sR r231 44 (va_up (r231 44) (5 : Int32).toNatClampNeg (some 100))
def s232 : St := s231
def r233 : Rf := sR r232 111 (fun _ => none)
def s233 : St := sL (sI s232 111 (fun _ => 0)) 111 (fun _ => 0)
def r234 : Rf := mR r233 112 6
def s234 : St := mS s233 112 6
def r235 : Rf := sR r234 111 (va_up (r234 111) 1 (some 112))
def s235 : St := s234
def r236 : Rf := sR r235 119 (fun _ => none)
def s236 : St := sL (sI s235 119 (fun _ => 0)) 119 (fun _ => 0)
def r237 : Rf := sR r236 111 (va_up (r236 111) 3 (some 119))
def s237 : St := s236
def r238 : Rf := sR r237 120 (fun _ => none)
def s238 : St := sL (sI s237 120 (fun _ => 0)) 120 (fun _ => 0)
def r239 : Rf := sR r238 111 (va_up (r238 111) 4 (some 120))
def s239 : St := s238
def r240 : Rf := sR r239 121 (fun _ => none)
def s240 : St := sL (sI s239 121 (fun _ => 0)) 121 (fun _ => 0)
def r241 : Rf := sR r240 111 (va_up (r240 111) 5 (some 121))
def s241 : St := s240
def r242 : Rf := sR r241 44 (va_up (r241 44) (6 : Int32).toNatClampNeg (some 111))
def s242 : St := s241
def r243 : Rf := sR r242 122 (fun _ => none)
def s243 : St := sL (sI s242 122 (fun _ => 0)) 122 (fun _ => 0)
def r244 : Rf := mR r243 123 6
def s244 : St := mS s243 123 6
def r245 : Rf := sR r244 122 (va_up (r244 122) 1 (some 123))
def s245 : St := s244
def r246 : Rf := sR r245 130 (fun _ => none)
def s246 : St := sL (sI s245 130 (fun _ => 0)) 130 (fun _ => 0)
def r247 : Rf := sR r246 122 (va_up (r246 122) 3 (some 130))
def s247 : St := s246
def r248 : Rf := sR r247 131 (fun _ => none)
def s248 : St := sL (sI s247 131 (fun _ => 0)) 131 (fun _ => 0)
def r249 : Rf := sR r248 122 (va_up (r248 122) 4 (some 131))
def s249 : St := s248
def r250 : Rf := sR r249 132 (fun _ => none)
def s250 : St := sL (sI s249 132 (fun _ => 0)) 132 (fun _ => 0)
def r251 : Rf := sR r250 122 (va_up (r250 122) 5 (some 132))
def s251 : St := s250
def r252 : Rf := sR r251 44 (va_up (r251 44) (7 : Int32).toNatClampNeg (some 122))
def s252 : St := s251
def r253 : Rf := sR r252 133 (fun _ => none)
def s253 : St := sL (sI s252 133 (fun _ => 0)) 133 (fun _ => 0)
def r254 : Rf := mR r253 134 6
def s254 : St := mS s253 134 6
def r255 : Rf := sR r254 133 (va_up (r254 133) 1 (some 134))
def s255 : St := s254
def r256 : Rf := sR r255 141 (fun _ => none)
def s256 : St := sL (sI s255 141 (fun _ => 0)) 141 (fun _ => 0)
def r257 : Rf := sR r256 133 (va_up (r256 133) 3 (some 141))
def s257 : St := s256
def r258 : Rf := sR r257 142 (fun _ => none)
def s258 : St := sL (sI s257 142 (fun _ => 0)) 142 (fun _ => 0)
def r259 : Rf := sR r258 133 (va_up (r258 133) 4 (some 142))
def s259 : St := s258
def r260 : Rf := sR r259 143 (fun _ => none)
def s260 : St := sL (sI s259 143 (fun _ => 0)) 143 (fun _ => 0)
def r261 : Rf := sR r260 133 (va_up (r260 133) 5 (some 143))
def s261 : St := s260
def r262 : Rf := sR r261 44 (va_up (r261 44) (8 : Int32).toNatClampNeg (some 133))
def s262 : St := s261
def r263 : Rf := sR r262 144 (fun _ => none)
def s263 : St := sL (sI s262 144 (fun _ => 0)) 144 (fun _ => 0)
def r264 : Rf := mR r263 145 6
def s264 : St := mS s263 145 6
def r265 : Rf := sR r264 144 (va_up (r264 144) 1 (some 145))
def s265 : St := s264
def r266 : Rf := sR r265 152 (fun _ => none)
def s266 : St := sL (sI s265 152 (fun _ => 0)) 152 (fun _ => 0)
def r267 : Rf := sR r266 144 (va_up (r266 144) 3 (some 152))
def s267 : St := s266
def r268 : Rf := sR r267 153 (fun _ => none)
def s268 : St := sL (sI s267 153 (fun _ => 0)) 153 (fun _ => 0)
def r269 : Rf := sR r268 144 (va_up (r268 144) 4 (some 153))
def s269 : St := s268
def r270 : Rf := sR r269 154 (fun _ => none)
def s270 : St := sL (sI s269 154 (fun _ => 0)) 154 (fun _ => 0)
def r271 : Rf := sR r270 144 (va_up (r270 144) 5 (some 154))
def s271 : St := s270
def r272 : Rf := sR r271 44 (va_up (r271 44) (9 : Int32).toNatClampNeg (some 144))
def s272 : St := s271
def r273 : Rf := sR r272 155 (fun _ => none)
def s273 : St := sL (sI s272 155 (fun _ => 0)) 155 (fun _ => 0)
def r274 : Rf := mR r273 156 6
def s274 : St := mS s273 156 6
def r275 : Rf := sR r274 155 (va_up (r274 155) 1 (some 156))
def s275 : St := s274
def r276 : Rf := sR r275 163 (fun _ => none)
def s276 : St := sL (sI s275 163 (fun _ => 0)) 163 (fun _ => 0)
def r277 : Rf := sR r276 155 (va_up (r276 155) 3 (some 163))
def s277 : St := s276
def r278 : Rf := sR r277 164 (fun _ => none)
def s278 : St := sL (sI s277 164 (fun _ => 0)) 164 (fun _ => 0)
def r279 : Rf := sR r278 155 (va_up (r278 155) 4 (some 164))
def s279 : St := s278
def r280 : Rf := sR r279 165 (fun _ => none)
def s280 : St := sL (sI s279 165 (fun _ => 0)) 165 (fun _ => 0)
def r281 : Rf := sR r280 155 (va_up (r280 155) 5 (some 165))
def s281 : St := s280
def r282 : Rf := sR r281 44 (va_up (r281 44) (10 : Int32).toNatClampNeg (some 155))
def s282 : St := s281
def r283 : Rf := sR r282 166 (fun _ => none)
def s283 : St := sL (sI s282 166 (fun _ => 0)) 166 (fun _ => 0)
def r284 : Rf := mR r283 167 6
def s284 : St := mS s283 167 6
def r285 : Rf := sR r284 166 (va_up (r284 166) 1 (some 167))
def s285 : St := s284
def r286 : Rf := sR r285 174 (fun _ => none)
def s286 : St := sL (sI s285 174 (fun _ => 0)) 174 (fun _ => 0)
def r287 : Rf := sR r286 166 (va_up (r286 166) 3 (some 174))
def s287 : St := s286
def r288 : Rf := sR r287 175 (fun _ => none)
def s288 : St := sL (sI s287 175 (fun _ => 0)) 175 (fun _ => 0)
def r289 : Rf := sR r288 166 (va_up (r288 166) 4 (some 175))
def s289 : St := s288
def r290 : Rf := sR r289 176 (fun _ => none)
def s290 : St := sL (sI s289 176 (fun _ => 0)) 176 (fun _ => 0)
def r291 : Rf := sR r290 166 (va_up (r290 166) 5 (some 176))
def s291 : St := s290
def r292 : Rf := sR r291 44 (va_up (r291 44) (11 : Int32).toNatClampNeg (some 166))
def s292 : St := s291
def r293 : Rf := sR r292 177 (fun _ => none)
def s293 : St := sL (sI s292 177 (fun _ => 0)) 177 (fun _ => 0)
def r294 : Rf := mR r293 178 6
def s294 : St := mS s293 178 6
def r295 : Rf := sR r294 177 (va_up (r294 177) 1 (some 178))
def s295 : St := s294
def r296 : Rf := sR r295 185 (fun _ => none)
def s296 : St := sL (sI s295 185 (fun _ => 0)) 185 (fun _ => 0)
def r297 : Rf := sR r296 177 (va_up (r296 177) 3 (some 185))
def s297 : St := s296
def r298 : Rf := sR r297 186 (fun _ => none)
def s298 : St := sL (sI s297 186 (fun _ => 0)) 186 (fun _ => 0)
def r299 : Rf := sR r298 177 (va_up (r298 177) 4 (some 186))
def s299 : St := s298
def r300 : Rf := sR r299 187 (fun _ => none)
def s300 : St := sL (sI s299 187 (fun _ => 0)) 187 (fun _ => 0)
def r301 : Rf := sR r300 177 (va_up (r300 177) 5 (some 187))
def s301 : St := s300
def r302 : Rf := sR r301 44 (va_up (r301 44) (12 : Int32).toNatClampNeg (some 177))
def s302 : St := s301
def r303 : Rf := sR r302 188 (fun _ => none)
def s303 : St := sL (sI s302 188 (fun _ => 0)) 188 (fun _ => 0)
def r304 : Rf := mR r303 189 6
def s304 : St := mS s303 189 6
def r305 : Rf := sR r304 188 (va_up (r304 188) 1 (some 189))
def s305 : St := s304
def r306 : Rf := sR r305 196 (fun _ => none)
def s306 : St := sL (sI s305 196 (fun _ => 0)) 196 (fun _ => 0)
def r307 : Rf := sR r306 188 (va_up (r306 188) 3 (some 196))
def s307 : St := s306
def r308 : Rf := sR r307 197 (fun _ => none)
def s308 : St := sL (sI s307 197 (fun _ => 0)) 197 (fun _ => 0)
def r309 : Rf := sR r308 188 (va_up (r308 188) 4 (some 197))
def s309 : St := s308
def r310 : Rf := sR r309 198 (fun _ => none)
def s310 : St := sL (sI s309 198 (fun _ => 0)) 198 (fun _ => 0)
def r311 : Rf := sR r310 188 (va_up (r310 188) 5 (some 198))
def s311 : St := s310
def r312 : Rf := sR r311 44 (va_up (r311 44) (13 : Int32).toNatClampNeg (some 188))
def s312 : St := s311
def r313 : Rf := sR r312 199 (fun _ => none)
def s313 : St := sL (sI s312 199 (fun _ => 0)) 199 (fun _ => 0)
def r314 : Rf := mR r313 200 6
def s314 : St := mS s313 200 6
def r315 : Rf := sR r314 199 (va_up (r314 199) 1 (some 200))
def s315 : St := s314
def r316 : Rf := sR r315 207 (fun _ => none)
def s316 : St := sL (sI s315 207 (fun _ => 0)) 207 (fun _ => 0)
def r317 : Rf := sR r316 199 (va_up (r316 199) 3 (some 207))
def s317 : St := s316
def r318 : Rf := sR r317 208 (fun _ => none)
def s318 : St := sL (sI s317 208 (fun _ => 0)) 208 (fun _ => 0)
def r319 : Rf := sR r318 199 (va_up (r318 199) 4 (some 208))
def s319 : St := s318
def r320 : Rf := sR r319 209 (fun _ => none)
def s320 : St := sL (sI s319 209 (fun _ => 0)) 209 (fun _ => 0)
def r321 : Rf := sR r320 199 (va_up (r320 199) 5 (some 209))
def s321 : St := s320
def r322 : Rf := sR r321 44 (va_up (r321 44) (14 : Int32).toNatClampNeg (some 199))
def s322 : St := s321
def r323 : Rf := sR r322 210 (fun _ => none)
def s323 : St := sL (sI s322 210 (fun _ => 0)) 210 (fun _ => 0)
def r324 : Rf := mR r323 211 6
def s324 : St := mS s323 211 6
def r325 : Rf := sR r324 210 (va_up (r324 210) 1 (some 211))
def s325 : St := s324
def r326 : Rf := sR r325 218 (fun _ => none)
def s326 : St := sL (sI s325 218 (fun _ => 0)) 218 (fun _ => 0)
def r327 : Rf := sR r326 210 (va_up (r326 210) 3 (some 218))
def s327 : St := s326
def r328 : Rf := sR r327 219 (fun _ => none)
def s328 : St := sL (sI s327 219 (fun _ => 0)) 219 (fun _ => 0)
def r329 : Rf := sR r328 210 (va_up (r328 210) 4 (some 219))
def s329 : St := s328
def r330 : Rf := sR r329 220 (fun _ => none)
def s330 : St := sL (sI s329 220 (fun _ => 0)) 220 (fun _ => 0)
def r331 : Rf := sR r330 210 (va_up (r330 210) 5 (some 220))
def s331 : St := s330
def r332 : Rf := sR r331 44 (va_up (r331 44) (15 : Int32).toNatClampNeg (some 210))
def s332 : St := s331
def r333 : Rf := sR r332 221 (fun _ => none)
def s333 : St := sL (sI s332 221 (fun _ => 0)) 221 (fun _ => 0)
def r334 : Rf := mR r333 222 6
def s334 : St := mS s333 222 6
def r335 : Rf := sR r334 221 (va_up (r334 221) 1 (some 222))
def s335 : St := s334
def r336 : Rf := sR r335 229 (fun _ => none)
def s336 : St := sL (sI s335 229 (fun _ => 0)) 229 (fun _ => 0)
def r337 : Rf := sR r336 221 (va_up (r336 221) 3 (some 229))
def s337 : St := s336
def r338 : Rf := sR r337 230 (fun _ => none)
def s338 : St := sL (sI s337 230 (fun _ => 0)) 230 (fun _ => 0)
def r339 : Rf := sR r338 221 (va_up (r338 221) 4 (some 230))
def s339 : St := s338
def r340 : Rf := sR r339 231 (fun _ => none)
def s340 : St := sL (sI s339 231 (fun _ => 0)) 231 (fun _ => 0)
def r341 : Rf := sR r340 221 (va_up (r340 221) 5 (some 231))
def s341 : St := s340
def r342 : Rf := sR r341 44 (va_up (r341 44) (16 : Int32).toNatClampNeg (some 221))
def s342 : St := s341
def r343 : Rf := sR r342 232 (fun _ => none)
def s343 : St := sL (sI s342 232 (fun _ => 0)) 232 (fun _ => 0)
def r344 : Rf := mR r343 233 6
def s344 : St := mS s343 233 6
def r345 : Rf := sR r344 232 (va_up (r344 232) 1 (some 233))
def s345 : St := s344
def r346 : Rf := sR r345 240 (fun _ => none)
def s346 : St := sL (sI s345 240 (fun _ => 0)) 240 (fun _ => 0)
def r347 : Rf := sR r346 232 (va_up (r346 232) 3 (some 240))
def s347 : St := s346
def r348 : Rf := sR r347 241 (fun _ => none)
def s348 : St := sL (sI s347 241 (fun _ => 0)) 241 (fun _ => 0)
def r349 : Rf := sR r348 232 (va_up (r348 232) 4 (some 241))
def s349 : St := s348
def r350 : Rf := sR r349 242 (fun _ => none)
def s350 : St := sL (sI s349 242 (fun _ => 0)) 242 (fun _ => 0)
def r351 : Rf := sR r350 232 (va_up (r350 232) 5 (some 242))
def s351 : St := s350
def r352 : Rf := sR r351 44 (va_up (r351 44) (17 : Int32).toNatClampNeg (some 232))
def s352 : St := s351
def r353 : Rf := sR r352 243 (fun _ => none)
def s353 : St := sL (sI s352 243 (fun _ => 0)) 243 (fun _ => 0)
def r354 : Rf := mR r353 244 6
def s354 : St := mS s353 244 6
def r355 : Rf := sR r354 243 (va_up (r354 243) 1 (some 244))
def s355 : St := s354
def r356 : Rf := sR r355 251 (fun _ => none)
def s356 : St := sL (sI s355 251 (fun _ => 0)) 251 (fun _ => 0)
def r357 : Rf := sR r356 243 (va_up (r356 243) 3 (some 251))
def s357 : St := s356
def r358 : Rf := sR r357 252 (fun _ => none)
def s358 : St := sL (sI s357 252 (fun _ => 0)) 252 (fun _ => 0)
def r359 : Rf := sR r358 243 (va_up (r358 243) 4 (some 252))
def s359 : St := s358
def r360 : Rf := sR r359 253 (fun _ => none)
def s360 : St := sL (sI s359 253 (fun _ => 0)) 253 (fun _ => 0)
def r361 : Rf := sR r360 243 (va_up (r360 243) 5 (some 253))
def s361 : St := s360
def r362 : Rf := sR r361 44 (va_up (r361 44) (18 : Int32).toNatClampNeg (some 243))
def s362 : St := s361
def r363 : Rf := sR r362 254 (fun _ => none)
def s363 : St := sL (sI s362 254 (fun _ => 0)) 254 (fun _ => 0)
def r364 : Rf := mR r363 255 6
def s364 : St := mS s363 255 6
def r365 : Rf := sR r364 254 (va_up (r364 254) 1 (some 255))
def s365 : St := s364
def r366 : Rf := sR r365 262 (fun _ => none)
def s366 : St := sL (sI s365 262 (fun _ => 0)) 262 (fun _ => 0)
def r367 : Rf := sR r366 254 (va_up (r366 254) 3 (some 262))
def s367 : St := s366
def r368 : Rf := sR r367 263 (fun _ => none)
def s368 : St := sL (sI s367 263 (fun _ => 0)) 263 (fun _ => 0)
def r369 : Rf := sR r368 254 (va_up (r368 254) 4 (some 263))
def s369 : St := s368
def r370 : Rf := sR r369 264 (fun _ => none)
def s370 : St := sL (sI s369 264 (fun _ => 0)) 264 (fun _ => 0)
def r371 : Rf := sR r370 254 (va_up (r370 254) 5 (some 264))
def s371 : St := s370
def r372 : Rf := sR r371 44 (va_up (r371 44) (19 : Int32).toNatClampNeg (some 254))
def s372 : St := s371
def r373 : Rf := sR r372 0 (va_up (r372 0) 5 (some 43))
def s373 : St := s372
def r374 : Rf := sR r373 265 (fun _ => none)
def s374 : St := sL (sI s373 265 (fun _ => 0)) 265 (fun _ => 0)
def r375 : Rf := sR r374 266 (fun _ => none)
def s375 : St := sL (sI s374 266 (fun _ => 0)) 266 (fun _ => 0)
def r376 : Rf := sR r375 265 (va_up (r375 265) 0 (some 266))
def s376 : St := s375
def r377 : Rf := sR r376 265 (va_up (r376 265) 1 (some 2))
def s377 : St := s376
def r378 : Rf := sR r377 0 (va_up (r377 0) 6 (some 265))
def s378 : St := s377
def r379 : Rf := sR r378 267 (fun _ => none)
def s379 : St := sL (sI s378 267 (fun _ => 0)) 267 (fun _ => 0)
def r380 : Rf := sR r379 268 (fun _ => none)
def s380 : St := sL (sI s379 268 (fun _ => 0)) 268 (fun _ => 0)
def r381 : Rf := mR r380 269 6
def s381 : St := mS s380 269 6
def r382 : Rf := sR r381 268 (va_up (r381 268) 1 (some 269))
def s382 : St := s381
def r383 : Rf := sR r382 276 (fun _ => none)
def s383 : St := sL (sI s382 276 (fun _ => 0)) 276 (fun _ => 0)
def r384 : Rf := sR r383 268 (va_up (r383 268) 3 (some 276))
def s384 : St := s383
def r385 : Rf := sR r384 277 (fun _ => none)
def s385 : St := sL (sI s384 277 (fun _ => 0)) 277 (fun _ => 0)
def r386 : Rf := sR r385 268 (va_up (r385 268) 4 (some 277))
def s386 : St := s385
def r387 : Rf := sR r386 278 (fun _ => none)
def s387 : St := sL (sI s386 278 (fun _ => 0)) 278 (fun _ => 0)
def r388 : Rf := sR r387 268 (va_up (r387 268) 5 (some 278))
def s388 : St := s387
def r389 : Rf := sR r388 267 (va_up (r388 267) 2 (some 268))
def s389 : St := s388
def r390 : Rf := sR r389 279 (fun _ => none)
def s390 : St := sL (sI s389 279 (fun _ => 0)) 279 (fun _ => 0)
def r391 : Rf := sR r390 267 (va_up (r390 267) 3 (some 279))
def s391 : St := s390
def r392 : Rf := mR r391 280 5
def s392 : St := mS s391 280 5
def r393 : Rf := sR r392 267 (va_up (r392 267) 4 (some 280))
def s393 : St := s392
def r394 : Rf := sR r393 286 (fun _ => none)
def s394 : St := sL (sI s393 286 (fun _ => 0)) 286 (fun _ => 0)
def r395 : Rf := sR r394 267 (va_up (r394 267) 5 (some 286))
def s395 : St := s394
def r396 : Rf := sR r395 287 (fun _ => none)
def s396 : St := sL (sI s395 287 (fun _ => 0)) 287 (fun _ => 0)
def r397 : Rf := sR r396 267 (va_up (r396 267) 6 (some 287))
def s397 : St := s396
def r398 : Rf := mR r397 288 6
def s398 : St := mS s397 288 6
def r399 : Rf := sR r398 267 (va_up (r398 267) 7 (some 288))
def s399 : St := s398
def r400 : Rf := mR r399 295 7
def s400 : St := mS s399 295 7
def r401 : Rf := sR r400 267 (va_up (r400 267) 8 (some 295))
def s401 : St := s400
def r402 : Rf := sR r401 303 (fun _ => none)
def s402 : St := sL (sI s401 303 (fun _ => 0)) 303 (fun _ => 0)
def r403 : Rf := sR r402 267 (va_up (r402 267) 9 (some 303))
def s403 : St := s402
def r404 : Rf := mR r403 304 10
def s404 : St := mS s403 304 10
def r405 : Rf := sR r404 267 (va_up (r404 267) 10 (some 304))
def s405 : St := s404
def r406 : Rf := sR r405 315 (fun _ => none)
def s406 : St := sL (sI s405 315 (fun _ => 0)) 315 (fun _ => 0)
def r407 : Rf := sR r406 267 (va_up (r406 267) 11 (some 315))
def s407 : St := s406
def r408 : Rf := sR r407 267 (va_up (r407 267) 0 (some 265))
def s408 : St := s407
def r409 : Rf := sR r408 267 (va_up (r408 267) 1 (some 32))
def s409 : St := s408
def r410 : Rf := sR r409 0 (va_up (r409 0) 7 (some 267))
def s410 : St := s409
def r411 : Rf := sR r410 316 (fun _ => none)
def s411 : St := sL (sI s410 316 (fun _ => 0)) 316 (fun _ => 0)
def r412 : Rf := sR r411 316 (va_up (r411 316) 0 (some 1))
def s412 : St := s411
def r413 : Rf := sR r412 0 (va_up (r412 0) 8 (some 316))
def s413 : St := s412
def r414 : Rf := sR r413 317 (fun _ => none)
def s414 : St := sL (sI s413 317 (fun _ => 0)) 317 (fun _ => 0)
def r415 : Rf := sR r414 317 (va_up (r414 317) 0 (some 316))
def s415 : St := s414
def r416 : Rf := sR r415 317 (va_up (r415 317) 2 (some 17))
def s416 : St := s415
def r417 : Rf := sR r416 318 (fun _ => none)
def s417 : St := sL (sI s416 318 (fun _ => 0)) 318 (fun _ => 0)
def r418 : Rf := sR r417 318 (va_up (r417 318) 0 (some 316))
def s418 : St := s417
def r419 : Rf := sR r418 318 (va_up (r418 318) 1 (some 27))
def s419 : St := s418
def r420 : Rf := sR r419 317 (va_up (r419 317) 1 (some 318))
def s420 : St := s419
def r421 : Rf := sR r420 0 (va_up (r420 0) 9 (some 317))
def s421 : St := s420
def r422 : Rf := sR r421 319 (fun _ => none)
def s422 : St := sL (sI s421 319 (fun _ => 0)) 319 (fun _ => 0)
def r423 : Rf := sR r422 320 (fun _ => none)
def s423 : St := sL (sI s422 320 (fun _ => 0)) 320 (fun _ => 0)
def r424 : Rf := sR r423 319 (va_up (r423 319) 0 (some 320))
def s424 : St := s423
def r425 : Rf := sR r424 321 (fun _ => none)
def s425 : St := sL (sI s424 321 (fun _ => 0)) 321 (fun _ => 0)
def r426 : Rf := sR r425 319 (va_up (r425 319) 1 (some 321))
def s426 : St := s425
def r427 : Rf := sR r426 322 (fun _ => none)
def s427 : St := sL (sI s426 322 (fun _ => 0)) 322 (fun _ => 0)
def r428 : Rf := sR r427 319 (va_up (r427 319) 2 (some 322))
def s428 : St := s427
def r429 : Rf := sR r428 323 (fun _ => none)
def s429 : St := sL (sI s428 323 (fun _ => 0)) 323 (fun _ => 0)
def r430 : Rf := sR r429 319 (va_up (r429 319) 3 (some 323))
def s430 : St := s429
def r431 : Rf := sR r430 0 (va_up (r430 0) 10 (some 319))
def s431 : St := s430
def r432 : Rf := sR r431 324 (fun _ => none)
def s432 : St := sL (sI s431 324 (fun _ => 0)) 324 (fun _ => 0)
def r433 : Rf := sR r432 0 (va_up (r432 0) 11 (some 324))
def s433 : St := s432
def r434 : Rf := sR r433 325 (fun _ => none)
def s434 : St := sL (sI s433 325 (fun _ => 0)) 325 (fun _ => 0)
def r435 : Rf := sR r434 0 (va_up (r434 0) 13 (some 325))
def s435 : St := s434
def r436 : Rf := r435
def s436 : St := sI s435 0 (upd (s435.1 0) 15 (-1))
def r437 : Rf := r436
def s437 : St := sI s436 0 (upd (s436.1 0) 16 1)
def r438 : Rf := sR r437 326 (fun _ => none)
def s438 : St := sL (sI s437 326 (fun _ => 0)) 326 (fun _ => 0)
def r439 : Rf := sR r438 327 (fun _ => none)
def s439 : St := sL (sI s438 327 (fun _ => 0)) 327 (fun _ => 0)
def r440 : Rf := sR r439 326 (va_up (r439 326) 0 (some 327))
def s440 : St := s439
def r441 : Rf := r440
def s441 : St := sI s440 326 (upd (s440.1 326) 8 (-1))
def r442 : Rf := sR r441 328 (fun _ => none)
def s442 : St := sL (sI s441 328 (fun _ => 0)) 328 (fun _ => 0)
def r443 : Rf := sR r442 326 (va_up (r442 326) 9 (some 328))
def s443 : St := s442
def r444 : Rf := sR r443 329 (fun _ => none)
def s444 : St := sL (sI s443 329 (fun _ => 0)) 329 (fun _ => 0)
def r445 : Rf := r444
def s445 : St := sI s444 329 (upd (s444.1 329) (0 : Int32).toNatClampNeg (vp_nar .char 105))
def r446 : Rf := r445
def s446 : St := sI s445 329 (upd (s445.1 329) (1 : Int32).toNatClampNeg (vp_nar .char 100))
def r447 : Rf := r446
def s447 : St := sI s446 329 (upd (s446.1 329) (2 : Int32).toNatClampNeg (vp_nar .char 101))
def r448 : Rf := r447
def s448 : St := sI s447 329 (upd (s447.1 329) (3 : Int32).toNatClampNeg (vp_nar .char 97))
def r449 : Rf := sR r448 326 (va_up (r448 326) 11 (some 329))
def s449 : St := s448
def r450 : Rf := sR r449 330 (fun _ => none)
def s450 : St := sL (sI s449 330 (fun _ => 0)) 330 (fun _ => 0)
def r451 : Rf := r450
def s451 : St := sI s450 330 (upd (s450.1 330) (0 : Int32).toNatClampNeg (vp_nar .char 100))
def r452 : Rf := r451
def s452 : St := sI s451 330 (upd (s451.1 330) (1 : Int32).toNatClampNeg (vp_nar .char 101))
def r453 : Rf := r452
def s453 : St := sI s452 330 (upd (s452.1 330) (2 : Int32).toNatClampNeg (vp_nar .char 112))
def r454 : Rf := r453
def s454 : St := sI s453 330 (upd (s453.1 330) (3 : Int32).toNatClampNeg (vp_nar .char 116))
def r455 : Rf := r454
def s455 : St := sI s454 330 (upd (s454.1 330) (4 : Int32).toNatClampNeg (vp_nar .char 104))
def r456 : Rf := sR r455 326 (va_up (r455 326) 12 (some 330))
def s456 : St := s455
def r457 : Rf := sR r456 331 (fun _ => none)
def s457 : St := sL (sI s456 331 (fun _ => 0)) 331 (fun _ => 0)
def r458 : Rf := r457
def s458 : St := sI s457 331 (upd (s457.1 331) (0 : Int32).toNatClampNeg (vp_nar .char 110))
def r459 : Rf := r458
def s459 : St := sI s458 331 (upd (s458.1 331) (1 : Int32).toNatClampNeg (vp_nar .char 101))
def r460 : Rf := r459
def s460 : St := sI s459 331 (upd (s459.1 331) (2 : Int32).toNatClampNeg (vp_nar .char 101))
def r461 : Rf := r460
def s461 : St := sI s460 331 (upd (s460.1 331) (3 : Int32).toNatClampNeg (vp_nar .char 100))
def r462 : Rf := sR r461 326 (va_up (r461 326) 13 (some 331))
def s462 : St := s461
def r463 : Rf := sR r462 332 (fun _ => none)
def s463 : St := sL (sI s462 332 (fun _ => 0)) 332 (fun _ => 0)
def r464 : Rf := r463
def s464 : St := sI s463 332 (upd (s463.1 332) (0 : Int32).toNatClampNeg (vp_nar .char 102))
def r465 : Rf := r464
def s465 : St := sI s464 332 (upd (s464.1 332) (1 : Int32).toNatClampNeg (vp_nar .char 111))
def r466 : Rf := r465
def s466 : St := sI s465 332 (upd (s465.1 332) (2 : Int32).toNatClampNeg (vp_nar .char 114))
def r467 : Rf := sR r466 326 (va_up (r466 326) 14 (some 332))
def s467 : St := s466
def r468 : Rf := sR r467 333 (fun _ => none)
def s468 : St := sL (sI s467 333 (fun _ => 0)) 333 (fun _ => 0)
def r469 : Rf := r468
def s469 : St := sI s468 333 (upd (s468.1 333) (0 : Int32).toNatClampNeg (vp_nar .char 98))
def r470 : Rf := r469
def s470 : St := sI s469 333 (upd (s469.1 333) (1 : Int32).toNatClampNeg (vp_nar .char 97))
def r471 : Rf := r470
def s471 : St := sI s470 333 (upd (s470.1 333) (2 : Int32).toNatClampNeg (vp_nar .char 116))
def r472 : Rf := r471
def s472 : St := sI s471 333 (upd (s471.1 333) (3 : Int32).toNatClampNeg (vp_nar .char 104))
def r473 : Rf := r472
def s473 : St := sI s472 333 (upd (s472.1 333) (4 : Int32).toNatClampNeg (vp_nar .char 101))
def r474 : Rf := r473
def s474 : St := sI s473 333 (upd (s473.1 333) (5 : Int32).toNatClampNeg (vp_nar .char 114))
def r475 : Rf := sR r474 326 (va_up (r474 326) 15 (some 333))
def s475 : St := s474
def r476 : Rf := sR r475 334 (fun _ => none)
def s476 : St := sL (sI s475 334 (fun _ => 0)) 334 (fun _ => 0)
def r477 : Rf := r476
def s477 : St := sI s476 334 (upd (s476.1 334) (0 : Int32).toNatClampNeg (vp_nar .char 108))
def r478 : Rf := r477
def s478 : St := sI s477 334 (upd (s477.1 334) (1 : Int32).toNatClampNeg (vp_nar .char 117))
def r479 : Rf := r478
def s479 : St := sI s478 334 (upd (s478.1 334) (2 : Int32).toNatClampNeg (vp_nar .char 110))
def r480 : Rf := r479
def s480 : St := sI s479 334 (upd (s479.1 334) (3 : Int32).toNatClampNeg (vp_nar .char 103))
def r481 : Rf := sR r480 326 (va_up (r480 326) 16 (some 334))
def s481 : St := s480
def r482 : Rf := sR r481 335 (fun _ => none)
def s482 : St := sL (sI s481 335 (fun _ => 0)) 335 (fun _ => 0)
def r483 : Rf := r482
def s483 : St := sI s482 335 (upd (s482.1 335) (0 : Int32).toNatClampNeg (vp_nar .char 119))
def r484 : Rf := r483
def s484 : St := sI s483 335 (upd (s483.1 335) (1 : Int32).toNatClampNeg (vp_nar .char 105))
def r485 : Rf := r484
def s485 : St := sI s484 335 (upd (s484.1 335) (2 : Int32).toNatClampNeg (vp_nar .char 116))
def r486 : Rf := r485
def s486 : St := sI s485 335 (upd (s485.1 335) (3 : Int32).toNatClampNeg (vp_nar .char 115))
def r487 : Rf := sR r486 326 (va_up (r486 326) 17 (some 335))
def s487 : St := s486
def r488 : Rf := sR r487 336 (fun _ => none)
def s488 : St := sL (sI s487 336 (fun _ => 0)) 336 (fun _ => 0)
def r489 : Rf := r488
def s489 : St := sI s488 336 (upd (s488.1 336) (0 : Int32).toNatClampNeg (vp_nar .char 112))
def r490 : Rf := r489
def s490 : St := sI s489 336 (upd (s489.1 336) (1 : Int32).toNatClampNeg (vp_nar .char 108))
def r491 : Rf := r490
def s491 : St := sI s490 336 (upd (s490.1 336) (2 : Int32).toNatClampNeg (vp_nar .char 97))
def r492 : Rf := r491
def s492 : St := sI s491 336 (upd (s491.1 336) (3 : Int32).toNatClampNeg (vp_nar .char 110))
def r493 : Rf := sR r492 326 (va_up (r492 326) 18 (some 336))
def s493 : St := s492
def r494 : Rf := sR r493 337 (fun _ => none)
def s494 : St := sL (sI s493 337 (fun _ => 0)) 337 (fun _ => 0)
def r495 : Rf := r494
def s495 : St := sI s494 337 (upd (s494.1 337) (0 : Int32).toNatClampNeg (vp_nar .char 105))
def r496 : Rf := r495
def s496 : St := sI s495 337 (upd (s495.1 337) (1 : Int32).toNatClampNeg (vp_nar .char 110))
def r497 : Rf := sR r496 326 (va_up (r496 326) 19 (some 337))
def s497 : St := s496
def r498 : Rf := sR r497 338 (fun _ => none)
def s498 : St := sL (sI s497 338 (fun _ => 0)) 338 (fun _ => 0)
def r499 : Rf := r498
def s499 : St := sI s498 338 (upd (s498.1 338) (0 : Int32).toNatClampNeg (vp_nar .char 116))
def r500 : Rf := r499
def s500 : St := sI s499 338 (upd (s499.1 338) (1 : Int32).toNatClampNeg (vp_nar .char 105))
def r501 : Rf := r500
def s501 : St := sI s500 338 (upd (s500.1 338) (2 : Int32).toNatClampNeg (vp_nar .char 100))
def r502 : Rf := r501
def s502 : St := sI s501 338 (upd (s501.1 338) (3 : Int32).toNatClampNeg (vp_nar .char 101))
def r503 : Rf := sR r502 326 (va_up (r502 326) 20 (some 338))
def s503 : St := s502
def r504 : Rf := sR r503 339 (fun _ => none)
def s504 : St := sL (sI s503 339 (fun _ => 0)) 339 (fun _ => 0)
def r505 : Rf := r504
def s505 : St := sI s504 339 (upd (s504.1 339) (0 : Int32).toNatClampNeg (vp_nar .char 107))
def r506 : Rf := r505
def s506 : St := sI s505 339 (upd (s505.1 339) (1 : Int32).toNatClampNeg (vp_nar .char 101))
def r507 : Rf := r506
def s507 : St := sI s506 339 (upd (s506.1 339) (2 : Int32).toNatClampNeg (vp_nar .char 101))
def r508 : Rf := r507
def s508 : St := sI s507 339 (upd (s507.1 339) (3 : Int32).toNatClampNeg (vp_nar .char 112))
def r509 : Rf := r508
def s509 : St := sI s508 339 (upd (s508.1 339) (4 : Int32).toNatClampNeg (vp_nar .char 115))
def r510 : Rf := sR r509 326 (va_up (r509 326) 21 (some 339))
def s510 : St := s509
def r511 : Rf := sR r510 340 (fun _ => none)
def s511 : St := sL (sI s510 340 (fun _ => 0)) 340 (fun _ => 0)
def r512 : Rf := r511
def s512 : St := sI s511 340 (upd (s511.1 340) (0 : Int32).toNatClampNeg (vp_nar .char 102))
def r513 : Rf := r512
def s513 : St := sI s512 340 (upd (s512.1 340) (1 : Int32).toNatClampNeg (vp_nar .char 97))
def r514 : Rf := r513
def s514 : St := sI s513 340 (upd (s513.1 340) (2 : Int32).toNatClampNeg (vp_nar .char 100))
def r515 : Rf := r514
def s515 : St := sI s514 340 (upd (s514.1 340) (3 : Int32).toNatClampNeg (vp_nar .char 101))
def r516 : Rf := r515
def s516 : St := sI s515 340 (upd (s515.1 340) (4 : Int32).toNatClampNeg (vp_nar .char 115))
def r517 : Rf := sR r516 326 (va_up (r516 326) 22 (some 340))
def s517 : St := s516
def r518 : Rf := sR r517 341 (fun _ => none)
def s518 : St := sL (sI s517 341 (fun _ => 0)) 341 (fun _ => 0)
def r519 : Rf := r518
def s519 : St := sI s518 341 (upd (s518.1 341) (0 : Int32).toNatClampNeg (vp_nar .char 98))
def r520 : Rf := r519
def s520 : St := sI s519 341 (upd (s519.1 341) (1 : Int32).toNatClampNeg (vp_nar .char 101))
def r521 : Rf := r520
def s521 : St := sI s520 341 (upd (s520.1 341) (2 : Int32).toNatClampNeg (vp_nar .char 97))
def r522 : Rf := r521
def s522 : St := sI s521 341 (upd (s521.1 341) (3 : Int32).toNatClampNeg (vp_nar .char 114))
def r523 : Rf := r522
def s523 : St := sI s522 341 (upd (s522.1 341) (4 : Int32).toNatClampNeg (vp_nar .char 115))
def r524 : Rf := sR r523 326 (va_up (r523 326) 23 (some 341))
def s524 : St := s523
def r525 : Rf := sR r524 342 (fun _ => none)
def s525 : St := sL (sI s524 342 (fun _ => 0)) 342 (fun _ => 0)
def r526 : Rf := r525
def s526 : St := sI s525 342 (upd (s525.1 342) (0 : Int32).toNatClampNeg (vp_nar .char 115))
def r527 : Rf := r526
def s527 : St := sI s526 342 (upd (s526.1 342) (1 : Int32).toNatClampNeg (vp_nar .char 113))
def r528 : Rf := r527
def s528 : St := sI s527 342 (upd (s527.1 342) (2 : Int32).toNatClampNeg (vp_nar .char 117))
def r529 : Rf := r528
def s529 : St := sI s528 342 (upd (s528.1 342) (3 : Int32).toNatClampNeg (vp_nar .char 97))
def r530 : Rf := r529
def s530 : St := sI s529 342 (upd (s529.1 342) (4 : Int32).toNatClampNeg (vp_nar .char 108))
def r531 : Rf := r530
def s531 : St := sI s530 342 (upd (s530.1 342) (5 : Int32).toNatClampNeg (vp_nar .char 108))
def r532 : Rf := sR r531 326 (va_up (r531 326) 24 (some 342))
def s532 : St := s531
def r533 : Rf := sR r532 343 (fun _ => none)
def s533 : St := sL (sI s532 343 (fun _ => 0)) 343 (fun _ => 0)
def r534 : Rf := r533
def s534 : St := sI s533 343 (upd (s533.1 343) (0 : Int32).toNatClampNeg (vp_nar .char 104))
def r535 : Rf := r534
def s535 : St := sI s534 343 (upd (s534.1 343) (1 : Int32).toNatClampNeg (vp_nar .char 111))
def r536 : Rf := r535
def s536 : St := sI s535 343 (upd (s535.1 343) (2 : Int32).toNatClampNeg (vp_nar .char 117))
def r537 : Rf := r536
def s537 : St := sI s536 343 (upd (s536.1 343) (3 : Int32).toNatClampNeg (vp_nar .char 114))
def r538 : Rf := sR r537 326 (va_up (r537 326) 25 (some 343))
def s538 : St := s537
def r539 : Rf := sR r538 344 (fun _ => none)
def s539 : St := sL (sI s538 344 (fun _ => 0)) 344 (fun _ => 0)
def r540 : Rf := r539
def s540 : St := sI s539 344 (upd (s539.1 344) (0 : Int32).toNatClampNeg (vp_nar .char 107))
def r541 : Rf := r540
def s541 : St := sI s540 344 (upd (s540.1 344) (1 : Int32).toNatClampNeg (vp_nar .char 110))
def r542 : Rf := r541
def s542 : St := sI s541 344 (upd (s541.1 344) (2 : Int32).toNatClampNeg (vp_nar .char 111))
def r543 : Rf := r542
def s543 : St := sI s542 344 (upd (s542.1 344) (3 : Int32).toNatClampNeg (vp_nar .char 119))
def r544 : Rf := r543
def s544 : St := sI s543 344 (upd (s543.1 344) (4 : Int32).toNatClampNeg (vp_nar .char 110))
def r545 : Rf := sR r544 326 (va_up (r544 326) 26 (some 344))
def s545 : St := s544
def r546 : Rf := sR r545 345 (fun _ => none)
def s546 : St := sL (sI s545 345 (fun _ => 0)) 345 (fun _ => 0)
def r547 : Rf := r546
def s547 : St := sI s546 345 (upd (s546.1 345) (0 : Int32).toNatClampNeg (vp_nar .char 115))
def r548 : Rf := r547
def s548 : St := sI s547 345 (upd (s547.1 345) (1 : Int32).toNatClampNeg (vp_nar .char 116))
def r549 : Rf := r548
def s549 : St := sI s548 345 (upd (s548.1 345) (2 : Int32).toNatClampNeg (vp_nar .char 114))
def r550 : Rf := r549
def s550 : St := sI s549 345 (upd (s549.1 345) (3 : Int32).toNatClampNeg (vp_nar .char 101))
def r551 : Rf := r550
def s551 : St := sI s550 345 (upd (s550.1 345) (4 : Int32).toNatClampNeg (vp_nar .char 110))
def r552 : Rf := r551
def s552 : St := sI s551 345 (upd (s551.1 345) (5 : Int32).toNatClampNeg (vp_nar .char 103))
def r553 : Rf := r552
def s553 : St := sI s552 345 (upd (s552.1 345) (6 : Int32).toNatClampNeg (vp_nar .char 116))
def r554 : Rf := r553
def s554 : St := sI s553 345 (upd (s553.1 345) (7 : Int32).toNatClampNeg (vp_nar .char 104))
def r555 : Rf := sR r554 326 (va_up (r554 326) 27 (some 345))
def s555 : St := s554
def r556 : Rf := sR r555 346 (fun _ => none)
def s556 : St := sL (sI s555 346 (fun _ => 0)) 346 (fun _ => 0)
def r557 : Rf := r556
def s557 : St := sI s556 346 (upd (s556.1 346) (0 : Int32).toNatClampNeg (vp_nar .char 114))
def r558 : Rf := r557
def s558 : St := sI s557 346 (upd (s557.1 346) (1 : Int32).toNatClampNeg (vp_nar .char 111))
def r559 : Rf := r558
def s559 : St := sI s558 346 (upd (s558.1 346) (2 : Int32).toNatClampNeg (vp_nar .char 111))
def r560 : Rf := r559
def s560 : St := sI s559 346 (upd (s559.1 346) (3 : Int32).toNatClampNeg (vp_nar .char 116))
def r561 : Rf := r560
def s561 : St := sI s560 346 (upd (s560.1 346) (4 : Int32).toNatClampNeg (vp_nar .char 101))
def r562 : Rf := r561
def s562 : St := sI s561 346 (upd (s561.1 346) (5 : Int32).toNatClampNeg (vp_nar .char 100))
def r563 : Rf := sR r562 326 (va_up (r562 326) 28 (some 346))
def s563 : St := s562
def r564 : Rf := sR r563 347 (fun _ => none)
def s564 : St := sL (sI s563 347 (fun _ => 0)) 347 (fun _ => 0)
def r565 : Rf := r564
def s565 : St := sI s564 347 (upd (s564.1 347) (0 : Int32).toNatClampNeg (vp_nar .char 110))
def r566 : Rf := r565
def s566 : St := sI s565 347 (upd (s565.1 347) (1 : Int32).toNatClampNeg (vp_nar .char 117))
def r567 : Rf := r566
def s567 : St := sI s566 347 (upd (s566.1 347) (2 : Int32).toNatClampNeg (vp_nar .char 109))
def r568 : Rf := r567
def s568 : St := sI s567 347 (upd (s567.1 347) (3 : Int32).toNatClampNeg (vp_nar .char 98))
def r569 : Rf := r568
def s569 : St := sI s568 347 (upd (s568.1 347) (4 : Int32).toNatClampNeg (vp_nar .char 101))
def r570 : Rf := r569
def s570 : St := sI s569 347 (upd (s569.1 347) (5 : Int32).toNatClampNeg (vp_nar .char 114))
def r571 : Rf := sR r570 326 (va_up (r570 326) 29 (some 347))
def s571 : St := s570
def r572 : Rf := sR r571 348 (fun _ => none)
def s572 : St := sL (sI s571 348 (fun _ => 0)) 348 (fun _ => 0)
def r573 : Rf := r572
def s573 : St := sI s572 348 (upd (s572.1 348) (0 : Int32).toNatClampNeg (vp_nar .char 107))
def r574 : Rf := r573
def s574 : St := sI s573 348 (upd (s573.1 348) (1 : Int32).toNatClampNeg (vp_nar .char 110))
def r575 : Rf := r574
def s575 : St := sI s574 348 (upd (s574.1 348) (2 : Int32).toNatClampNeg (vp_nar .char 111))
def r576 : Rf := r575
def s576 : St := sI s575 348 (upd (s575.1 348) (3 : Int32).toNatClampNeg (vp_nar .char 119))
def r577 : Rf := r576
def s577 : St := sI s576 348 (upd (s576.1 348) (4 : Int32).toNatClampNeg (vp_nar .char 115))
def r578 : Rf := sR r577 326 (va_up (r577 326) 30 (some 348))
def s578 : St := s577
def r579 : Rf := sR r578 349 (fun _ => none)
def s579 : St := sL (sI s578 349 (fun _ => 0)) 349 (fun _ => 0)
def r580 : Rf := r579
def s580 : St := sI s579 349 (upd (s579.1 349) (0 : Int32).toNatClampNeg (vp_nar .char 114))
def r581 : Rf := r580
def s581 : St := sI s580 349 (upd (s580.1 349) (1 : Int32).toNatClampNeg (vp_nar .char 101))
def r582 : Rf := r581
def s582 : St := sI s581 349 (upd (s581.1 349) (2 : Int32).toNatClampNeg (vp_nar .char 97))
def r583 : Rf := r582
def s583 : St := sI s582 349 (upd (s582.1 349) (3 : Int32).toNatClampNeg (vp_nar .char 100))
def r584 : Rf := r583
def s584 : St := sI s583 349 (upd (s583.1 349) (4 : Int32).toNatClampNeg (vp_nar .char 121))
def r585 : Rf := sR r584 326 (va_up (r584 326) 31 (some 349))
def s585 : St := s584
def r586 : Rf := sR r585 350 (fun _ => none)
def s586 : St := sL (sI s585 350 (fun _ => 0)) 350 (fun _ => 0)
def r587 : Rf := r586
def s587 : St := sI s586 350 (upd (s586.1 350) (0 : Int32).toNatClampNeg (vp_nar .char 111))
def r588 : Rf := r587
def s588 : St := sI s587 350 (upd (s587.1 350) (1 : Int32).toNatClampNeg (vp_nar .char 114))
def r589 : Rf := sR r588 326 (va_up (r588 326) 32 (some 350))
def s589 : St := s588
def r590 : Rf := sR r589 351 (fun _ => none)
def s590 : St := sL (sI s589 351 (fun _ => 0)) 351 (fun _ => 0)
def r591 : Rf := r590
def s591 : St := sI s590 351 (upd (s590.1 351) (0 : Int32).toNatClampNeg (vp_nar .char 97))
def r592 : Rf := r591
def s592 : St := sI s591 351 (upd (s591.1 351) (1 : Int32).toNatClampNeg (vp_nar .char 110))
def r593 : Rf := r592
def s593 : St := sI s592 351 (upd (s592.1 351) (2 : Int32).toNatClampNeg (vp_nar .char 100))
def r594 : Rf := sR r593 326 (va_up (r593 326) 33 (some 351))
def s594 : St := s593
def r595 : Rf := sR r594 352 (fun _ => none)
def s595 : St := sL (sI s594 352 (fun _ => 0)) 352 (fun _ => 0)
def r596 : Rf := r595
def s596 : St := sI s595 352 (upd (s595.1 352) (0 : Int32).toNatClampNeg (vp_nar .char 110))
def r597 : Rf := r596
def s597 : St := sI s596 352 (upd (s596.1 352) (1 : Int32).toNatClampNeg (vp_nar .char 111))
def r598 : Rf := r597
def s598 : St := sI s597 352 (upd (s597.1 352) (2 : Int32).toNatClampNeg (vp_nar .char 116))
def r599 : Rf := sR r598 326 (va_up (r598 326) 34 (some 352))
def s599 : St := s598
def r600 : Rf := sR r599 353 (fun _ => none)
def s600 : St := sL (sI s599 353 (fun _ => 0)) 353 (fun _ => 0)
def r601 : Rf := r600
def s601 : St := sI s600 353 (upd (s600.1 353) (0 : Int32).toNatClampNeg (vp_nar .char 97))
def r602 : Rf := r601
def s602 : St := sI s601 353 (upd (s601.1 353) (1 : Int32).toNatClampNeg (vp_nar .char 108))
def r603 : Rf := r602
def s603 : St := sI s602 353 (upd (s602.1 353) (2 : Int32).toNatClampNeg (vp_nar .char 108))
def r604 : Rf := sR r603 326 (va_up (r603 326) 35 (some 353))
def s604 : St := s603
def r605 : Rf := sR r604 354 (fun _ => none)
def s605 : St := sL (sI s604 354 (fun _ => 0)) 354 (fun _ => 0)
def r606 : Rf := r605
def s606 : St := sI s605 354 (upd (s605.1 354) (0 : Int32).toNatClampNeg (vp_nar .char 109))
def r607 : Rf := r606
def s607 : St := sI s606 354 (upd (s606.1 354) (1 : Int32).toNatClampNeg (vp_nar .char 105))
def r608 : Rf := r607
def s608 : St := sI s607 354 (upd (s607.1 354) (2 : Int32).toNatClampNeg (vp_nar .char 110))
def r609 : Rf := sR r608 326 (va_up (r608 326) 36 (some 354))
def s609 : St := s608
def r610 : Rf := sR r609 355 (fun _ => none)
def s610 : St := sL (sI s609 355 (fun _ => 0)) 355 (fun _ => 0)
def r611 : Rf := r610
def s611 : St := sI s610 355 (upd (s610.1 355) (0 : Int32).toNatClampNeg (vp_nar .char 109))
def r612 : Rf := r611
def s612 : St := sI s611 355 (upd (s611.1 355) (1 : Int32).toNatClampNeg (vp_nar .char 97))
def r613 : Rf := r612
def s613 : St := sI s612 355 (upd (s612.1 355) (2 : Int32).toNatClampNeg (vp_nar .char 120))
def r614 : Rf := sR r613 326 (va_up (r613 326) 37 (some 355))
def s614 : St := s613
def r615 : Rf := sR r614 356 (fun _ => none)
def s615 : St := sL (sI s614 356 (fun _ => 0)) 356 (fun _ => 0)
def r616 : Rf := sR r615 326 (va_up (r615 326) 39 (some 356))
def s616 : St := s615
def r617 : Rf := sR r616 357 (fun _ => none)
def s617 : St := sL (sI s616 357 (fun _ => 0)) 357 (fun _ => 0)
def r618 : Rf := sR r617 326 (va_up (r617 326) 40 (some 357))
def s618 : St := s617
def r619 : Rf := sR r618 358 (fun _ => none)
def s619 : St := sL (sI s618 358 (fun _ => 0)) 358 (fun _ => 0)
def r620 : Rf := sR r619 326 (va_up (r619 326) 41 (some 358))
def s620 : St := s619
def r621 : Rf := sR r620 359 (fun _ => none)
def s621 : St := sL (sI s620 359 (fun _ => 0)) 359 (fun _ => 0)
def r622 : Rf := sR r621 326 (va_up (r621 326) 42 (some 359))
def s622 : St := s621
def r623 : Rf := sR r622 360 (fun _ => none)
def s623 : St := sL (sI s622 360 (fun _ => 0)) 360 (fun _ => 0)
def r624 : Rf := sR r623 326 (va_up (r623 326) 43 (some 360))
def s624 : St := s623
def r625 : Rf := sR r624 361 (fun _ => none)
def s625 : St := sL (sI s624 361 (fun _ => 0)) 361 (fun _ => 0)
def r626 : Rf := sR r625 326 (va_up (r625 326) 44 (some 361))
def s626 : St := s625
def r627 : Rf := sR r626 362 (fun _ => none)
def s627 : St := sL (sI s626 362 (fun _ => 0)) 362 (fun _ => 0)
def r628 : Rf := r627
def s628 : St := sI s627 362 (upd (s627.1 362) (0 : Int32).toNatClampNeg (-1))
def r629 : Rf := r628
def s629 : St := sI s628 362 (upd (s628.1 362) (1 : Int32).toNatClampNeg (-1))
def r630 : Rf := r629
def s630 : St := sI s629 362 (upd (s629.1 362) (2 : Int32).toNatClampNeg (-1))
def r631 : Rf := r630
def s631 : St := sI s630 362 (upd (s630.1 362) (3 : Int32).toNatClampNeg (-1))
def r632 : Rf := r631
def s632 : St := sI s631 362 (upd (s631.1 362) (4 : Int32).toNatClampNeg (-1))
def r633 : Rf := r632
def s633 : St := sI s632 362 (upd (s632.1 362) (5 : Int32).toNatClampNeg (-1))
def r634 : Rf := r633
def s634 : St := sI s633 362 (upd (s633.1 362) (6 : Int32).toNatClampNeg (-1))
def r635 : Rf := r634
def s635 : St := sI s634 362 (upd (s634.1 362) (7 : Int32).toNatClampNeg (-1))
def r636 : Rf := sR r635 326 (va_up (r635 326) 45 (some 362))
def s636 : St := s635
def r637 : Rf := sR r636 363 (fun _ => none)
def s637 : St := sL (sI s636 363 (fun _ => 0)) 363 (fun _ => 0)
def r638 : Rf := sR r637 326 (va_up (r637 326) 46 (some 363))
def s638 : St := s637
def r639 : Rf := sR r638 364 (fun _ => none)
def s639 : St := sL (sI s638 364 (fun _ => 0)) 364 (fun _ => 0)
def r640 : Rf := sR r639 326 (va_up (r639 326) 47 (some 364))
def s640 : St := s639
def r641 : Rf := sR r640 365 (fun _ => none)
def s641 : St := sL (sI s640 365 (fun _ => 0)) 365 (fun _ => 0)
def r642 : Rf := sR r641 326 (va_up (r641 326) 51 (some 365))
def s642 : St := s641
def r643 : Rf := sR r642 366 (fun _ => none)
def s643 : St := sL (sI s642 366 (fun _ => 0)) 366 (fun _ => 0)
def r644 : Rf := sR r643 326 (va_up (r643 326) 52 (some 366))
def s644 : St := s643
def r645 : Rf := r644
def s645 : St := sI s644 326 (upd (s644.1 326) 53 (-1))
def r646 : Rf := sR r645 367 (fun _ => none)
def s646 : St := sL (sI s645 367 (fun _ => 0)) 367 (fun _ => 0)
def r647 : Rf := sR r646 326 (va_up (r646 326) 59 (some 367))
def s647 : St := s646
def r648 : Rf := sR r647 368 (fun _ => none)
def s648 : St := sL (sI s647 368 (fun _ => 0)) 368 (fun _ => 0)
def r649 : Rf := sR r648 326 (va_up (r648 326) 62 (some 368))
def s649 : St := s648
def r650 : Rf := sR r649 369 (fun _ => none)
def s650 : St := sL (sI s649 369 (fun _ => 0)) 369 (fun _ => 0)
def r651 : Rf := sR r650 326 (va_up (r650 326) 63 (some 369))
def s651 : St := s650
def r652 : Rf := sR r651 370 (fun _ => none)
def s652 : St := sL (sI s651 370 (fun _ => 0)) 370 (fun _ => 0)
def r653 : Rf := sR r652 326 (va_up (r652 326) 67 (some 370))
def s653 : St := s652
def r654 : Rf := sR r653 371 (fun _ => none)
def s654 : St := sL (sI s653 371 (fun _ => 0)) 371 (fun _ => 0)
def r655 : Rf := sR r654 326 (va_up (r654 326) 68 (some 371))
def s655 : St := s654
def r656 : Rf := sR r655 372 (fun _ => none)
def s656 : St := sL (sI s655 372 (fun _ => 0)) 372 (fun _ => 0)
def r657 : Rf := sR r656 326 (va_up (r656 326) 70 (some 372))
def s657 : St := s656
def r658 : Rf := sR r657 373 (fun _ => none)
def s658 : St := sL (sI s657 373 (fun _ => 0)) 373 (fun _ => 0)
def r659 : Rf := sR r658 326 (va_up (r658 326) 71 (some 373))
def s659 : St := s658
def r660 : Rf := sR r659 374 (fun _ => none)
def s660 : St := sL (sI s659 374 (fun _ => 0)) 374 (fun _ => 0)
def r661 : Rf := sR r660 326 (va_up (r660 326) 72 (some 374))
def s661 : St := s660
def r662 : Rf := r661
def s662 : St := sL s661 326 (vp_updL (s661.2 326) 75 1)
def r663 : Rf := sR r662 375 (fun _ => none)
def s663 : St := sL (sI s662 375 (fun _ => 0)) 375 (fun _ => 0)
def r664 : Rf := r663
def s664 : St := sI s663 375 (upd (s663.1 375) (0 : Int32).toNatClampNeg (vp_nar .char 102))
def r665 : Rf := r664
def s665 : St := sI s664 375 (upd (s664.1 375) (1 : Int32).toNatClampNeg (vp_nar .char 105))
def r666 : Rf := r665
def s666 : St := sI s665 375 (upd (s665.1 375) (2 : Int32).toNatClampNeg (vp_nar .char 114))
def r667 : Rf := r666
def s667 : St := sI s666 375 (upd (s666.1 375) (3 : Int32).toNatClampNeg (vp_nar .char 115))
def r668 : Rf := r667
def s668 : St := sI s667 375 (upd (s667.1 375) (4 : Int32).toNatClampNeg (vp_nar .char 116))
def r669 : Rf := sR r668 326 (va_up (r668 326) 76 (some 375))
def s669 : St := s668
def r670 : Rf := sR r669 376 (fun _ => none)
def s670 : St := sL (sI s669 376 (fun _ => 0)) 376 (fun _ => 0)
def r671 : Rf := r670
def s671 : St := sI s670 376 (upd (s670.1 376) (0 : Int32).toNatClampNeg (vp_nar .char 108))
def r672 : Rf := r671
def s672 : St := sI s671 376 (upd (s671.1 376) (1 : Int32).toNatClampNeg (vp_nar .char 97))
def r673 : Rf := r672
def s673 : St := sI s672 376 (upd (s672.1 376) (2 : Int32).toNatClampNeg (vp_nar .char 115))
def r674 : Rf := r673
def s674 : St := sI s673 376 (upd (s673.1 376) (3 : Int32).toNatClampNeg (vp_nar .char 116))
def r675 : Rf := sR r674 326 (va_up (r674 326) 77 (some 376))
def s675 : St := s674
def r676 : Rf := sR r675 377 (fun _ => none)
def s676 : St := sL (sI s675 377 (fun _ => 0)) 377 (fun _ => 0)
def r677 : Rf := r676
def s677 : St := sI s676 377 (upd (s676.1 377) (0 : Int32).toNatClampNeg (vp_nar .char 111))
def r678 : Rf := r677
def s678 : St := sI s677 377 (upd (s677.1 377) (1 : Int32).toNatClampNeg (vp_nar .char 102))
def r679 : Rf := r678
def s679 : St := sI s678 377 (upd (s678.1 377) (2 : Int32).toNatClampNeg (vp_nar .char 116))
def r680 : Rf := r679
def s680 : St := sI s679 377 (upd (s679.1 377) (3 : Int32).toNatClampNeg (vp_nar .char 101))
def r681 : Rf := r680
def s681 : St := sI s680 377 (upd (s680.1 377) (4 : Int32).toNatClampNeg (vp_nar .char 110))
def r682 : Rf := sR r681 326 (va_up (r681 326) 78 (some 377))
def s682 : St := s681
def r683 : Rf := sR r682 378 (fun _ => none)
def s683 : St := sL (sI s682 378 (fun _ => 0)) 378 (fun _ => 0)
def r684 : Rf := r683
def s684 : St := sI s683 378 (upd (s683.1 378) (0 : Int32).toNatClampNeg (vp_nar .char 116))
def r685 : Rf := r684
def s685 : St := sI s684 378 (upd (s684.1 378) (1 : Int32).toNatClampNeg (vp_nar .char 111))
def r686 : Rf := r685
def s686 : St := sI s685 378 (upd (s685.1 378) (2 : Int32).toNatClampNeg (vp_nar .char 116))
def r687 : Rf := r686
def s687 : St := sI s686 378 (upd (s686.1 378) (3 : Int32).toNatClampNeg (vp_nar .char 97))
def r688 : Rf := r687
def s688 : St := sI s687 378 (upd (s687.1 378) (4 : Int32).toNatClampNeg (vp_nar .char 108))
def r689 : Rf := sR r688 326 (va_up (r688 326) 79 (some 378))
def s689 : St := s688
def r690 : Rf := sR r689 379 (fun _ => none)
def s690 : St := sL (sI s689 379 (fun _ => 0)) 379 (fun _ => 0)
def r691 : Rf := r690
def s691 : St := sI s690 379 (upd (s690.1 379) (0 : Int32).toNatClampNeg (vp_nar .char 109))
def r692 : Rf := r691
def s692 : St := sI s691 379 (upd (s691.1 379) (1 : Int32).toNatClampNeg (vp_nar .char 111))
def r693 : Rf := r692
def s693 : St := sI s692 379 (upd (s692.1 379) (2 : Int32).toNatClampNeg (vp_nar .char 115))
def r694 : Rf := r693
def s694 : St := sI s693 379 (upd (s693.1 379) (3 : Int32).toNatClampNeg (vp_nar .char 116))
def r695 : Rf := sR r694 326 (va_up (r694 326) 80 (some 379))
def s695 : St := s694
def r696 : Rf := sR r695 380 (fun _ => none)
def s696 : St := sL (sI s695 380 (fun _ => 0)) 380 (fun _ => 0)
def r697 : Rf := r696
def s697 : St := sI s696 380 (upd (s696.1 380) (0 : Int32).toNatClampNeg (vp_nar .char 108))
def r698 : Rf := r697
def s698 : St := sI s697 380 (upd (s697.1 380) (1 : Int32).toNatClampNeg (vp_nar .char 101))
def r699 : Rf := r698
def s699 : St := sI s698 380 (upd (s698.1 380) (2 : Int32).toNatClampNeg (vp_nar .char 97))
def r700 : Rf := r699
def s700 : St := sI s699 380 (upd (s699.1 380) (3 : Int32).toNatClampNeg (vp_nar .char 115))
def r701 : Rf := r700
def s701 : St := sI s700 380 (upd (s700.1 380) (4 : Int32).toNatClampNeg (vp_nar .char 116))
def r702 : Rf := sR r701 326 (va_up (r701 326) 81 (some 380))
def s702 : St := s701
def r703 : Rf := sR r702 381 (fun _ => none)
def s703 : St := sL (sI s702 381 (fun _ => 0)) 381 (fun _ => 0)
def r704 : Rf := r703
def s704 : St := sI s703 381 (upd (s703.1 381) (0 : Int32).toNatClampNeg (vp_nar .char 110))
def r705 : Rf := r704
def s705 : St := sI s704 381 (upd (s704.1 381) (1 : Int32).toNatClampNeg (vp_nar .char 111))
def r706 : Rf := r705
def s706 : St := sI s705 381 (upd (s705.1 381) (2 : Int32).toNatClampNeg (vp_nar .char 116))
def r707 : Rf := sR r706 326 (va_up (r706 326) 82 (some 381))
def s707 : St := s706
def r708 : Rf := sR r707 382 (fun _ => none)
def s708 : St := sL (sI s707 382 (fun _ => 0)) 382 (fun _ => 0)
def r709 : Rf := r708
def s709 : St := sI s708 382 (upd (s708.1 382) (0 : Int32).toNatClampNeg (vp_nar .char 97))
def r710 : Rf := r709
def s710 : St := sI s709 382 (upd (s709.1 382) (1 : Int32).toNatClampNeg (vp_nar .char 110))
def r711 : Rf := r710
def s711 : St := sI s710 382 (upd (s710.1 382) (2 : Int32).toNatClampNeg (vp_nar .char 100))
def r712 : Rf := sR r711 326 (va_up (r711 326) 83 (some 382))
def s712 : St := s711
def r713 : Rf := sR r712 383 (fun _ => none)
def s713 : St := sL (sI s712 383 (fun _ => 0)) 383 (fun _ => 0)
def r714 : Rf := r713
def s714 : St := sI s713 383 (upd (s713.1 383) (0 : Int32).toNatClampNeg (vp_nar .char 111))
def r715 : Rf := r714
def s715 : St := sI s714 383 (upd (s714.1 383) (1 : Int32).toNatClampNeg (vp_nar .char 114))
def r716 : Rf := sR r715 326 (va_up (r715 326) 84 (some 383))
def s716 : St := s715
def r717 : Rf := sR r716 384 (fun _ => none)
def s717 : St := sL (sI s716 384 (fun _ => 0)) 384 (fun _ => 0)
def r718 : Rf := r717
def s718 : St := sI s717 384 (upd (s717.1 384) (0 : Int32).toNatClampNeg (vp_nar .char 97))
def r719 : Rf := r718
def s719 : St := sI s718 384 (upd (s718.1 384) (1 : Int32).toNatClampNeg (vp_nar .char 108))
def r720 : Rf := r719
def s720 : St := sI s719 384 (upd (s719.1 384) (2 : Int32).toNatClampNeg (vp_nar .char 108))
def r721 : Rf := sR r720 326 (va_up (r720 326) 85 (some 384))
def s721 : St := s720
def r722 : Rf := sR r721 385 (fun _ => none)
def s722 : St := sL (sI s721 385 (fun _ => 0)) 385 (fun _ => 0)
def r723 : Rf := r722
def s723 : St := sI s722 385 (upd (s722.1 385) (0 : Int32).toNatClampNeg (vp_nar .char 109))
def r724 : Rf := r723
def s724 : St := sI s723 385 (upd (s723.1 385) (1 : Int32).toNatClampNeg (vp_nar .char 105))
def r725 : Rf := r724
def s725 : St := sI s724 385 (upd (s724.1 385) (2 : Int32).toNatClampNeg (vp_nar .char 110))
def r726 : Rf := sR r725 326 (va_up (r725 326) 86 (some 385))
def s726 : St := s725
def r727 : Rf := sR r726 386 (fun _ => none)
def s727 : St := sL (sI s726 386 (fun _ => 0)) 386 (fun _ => 0)
def r728 : Rf := r727
def s728 : St := sI s727 386 (upd (s727.1 386) (0 : Int32).toNatClampNeg (vp_nar .char 109))
def r729 : Rf := r728
def s729 : St := sI s728 386 (upd (s728.1 386) (1 : Int32).toNatClampNeg (vp_nar .char 97))
def r730 : Rf := r729
def s730 : St := sI s729 386 (upd (s729.1 386) (2 : Int32).toNatClampNeg (vp_nar .char 120))
def r731 : Rf := sR r730 326 (va_up (r730 326) 87 (some 386))
def s731 : St := s730
def r732 : Rf := sR r731 387 (fun _ => none)
def s732 : St := sL (sI s731 387 (fun _ => 0)) 387 (fun _ => 0)
def r733 : Rf := r732
def s733 : St := sI s732 387 (upd (s732.1 387) (0 : Int32).toNatClampNeg (vp_nar .char 104))
def r734 : Rf := r733
def s734 : St := sI s733 387 (upd (s733.1 387) (1 : Int32).toNatClampNeg (vp_nar .char 111))
def r735 : Rf := r734
def s735 : St := sI s734 387 (upd (s734.1 387) (2 : Int32).toNatClampNeg (vp_nar .char 117))
def r736 : Rf := r735
def s736 : St := sI s735 387 (upd (s735.1 387) (3 : Int32).toNatClampNeg (vp_nar .char 114))
def r737 : Rf := sR r736 326 (va_up (r736 326) 88 (some 387))
def s737 : St := s736
def r738 : Rf := sR r737 388 (fun _ => none)
def s738 : St := sL (sI s737 388 (fun _ => 0)) 388 (fun _ => 0)
def r739 : Rf := r738
def s739 : St := sI s738 388 (upd (s738.1 388) (0 : Int32).toNatClampNeg (vp_nar .char 100))
def r740 : Rf := r739
def s740 : St := sI s739 388 (upd (s739.1 388) (1 : Int32).toNatClampNeg (vp_nar .char 101))
def r741 : Rf := r740
def s741 : St := sI s740 388 (upd (s740.1 388) (2 : Int32).toNatClampNeg (vp_nar .char 112))
def r742 : Rf := r741
def s742 : St := sI s741 388 (upd (s741.1 388) (3 : Int32).toNatClampNeg (vp_nar .char 116))
def r743 : Rf := r742
def s743 : St := sI s742 388 (upd (s742.1 388) (4 : Int32).toNatClampNeg (vp_nar .char 104))
def r744 : Rf := sR r743 326 (va_up (r743 326) 89 (some 388))
def s744 : St := s743
def r745 : Rf := sR r744 389 (fun _ => none)
def s745 : St := sL (sI s744 389 (fun _ => 0)) 389 (fun _ => 0)
def r746 : Rf := r745
def s746 : St := sI s745 389 (upd (s745.1 389) (0 : Int32).toNatClampNeg (vp_nar .char 119))
def r747 : Rf := r746
def s747 : St := sI s746 389 (upd (s746.1 389) (1 : Int32).toNatClampNeg (vp_nar .char 105))
def r748 : Rf := r747
def s748 : St := sI s747 389 (upd (s747.1 389) (2 : Int32).toNatClampNeg (vp_nar .char 116))
def r749 : Rf := r748
def s749 : St := sI s748 389 (upd (s748.1 389) (3 : Int32).toNatClampNeg (vp_nar .char 115))
def r750 : Rf := sR r749 326 (va_up (r749 326) 90 (some 389))
def s750 : St := s749
def r751 : Rf := sR r750 390 (fun _ => none)
def s751 : St := sL (sI s750 390 (fun _ => 0)) 390 (fun _ => 0)
def r752 : Rf := r751
def s752 : St := sI s751 390 (upd (s751.1 390) (0 : Int32).toNatClampNeg (vp_nar .char 107))
def r753 : Rf := r752
def s753 : St := sI s752 390 (upd (s752.1 390) (1 : Int32).toNatClampNeg (vp_nar .char 110))
def r754 : Rf := r753
def s754 : St := sI s753 390 (upd (s753.1 390) (2 : Int32).toNatClampNeg (vp_nar .char 111))
def r755 : Rf := r754
def s755 : St := sI s754 390 (upd (s754.1 390) (3 : Int32).toNatClampNeg (vp_nar .char 119))
def r756 : Rf := r755
def s756 : St := sI s755 390 (upd (s755.1 390) (4 : Int32).toNatClampNeg (vp_nar .char 110))
def r757 : Rf := sR r756 326 (va_up (r756 326) 91 (some 390))
def s757 : St := s756
def r758 : Rf := sR r757 391 (fun _ => none)
def s758 : St := sL (sI s757 391 (fun _ => 0)) 391 (fun _ => 0)
def r759 : Rf := r758
def s759 : St := sI s758 391 (upd (s758.1 391) (0 : Int32).toNatClampNeg (vp_nar .char 108))
def r760 : Rf := r759
def s760 : St := sI s759 391 (upd (s759.1 391) (1 : Int32).toNatClampNeg (vp_nar .char 117))
def r761 : Rf := r760
def s761 : St := sI s760 391 (upd (s760.1 391) (2 : Int32).toNatClampNeg (vp_nar .char 110))
def r762 : Rf := r761
def s762 : St := sI s761 391 (upd (s761.1 391) (3 : Int32).toNatClampNeg (vp_nar .char 103))
def r763 : Rf := sR r762 326 (va_up (r762 326) 92 (some 391))
def s763 : St := s762
def r764 : Rf := sR r763 392 (fun _ => none)
def s764 : St := sL (sI s763 392 (fun _ => 0)) 392 (fun _ => 0)
def r765 : Rf := r764
def s765 : St := sI s764 392 (upd (s764.1 392) (0 : Int32).toNatClampNeg (vp_nar .char 116))
def r766 : Rf := r765
def s766 : St := sI s765 392 (upd (s765.1 392) (1 : Int32).toNatClampNeg (vp_nar .char 105))
def r767 : Rf := r766
def s767 : St := sI s766 392 (upd (s766.1 392) (2 : Int32).toNatClampNeg (vp_nar .char 100))
def r768 : Rf := r767
def s768 : St := sI s767 392 (upd (s767.1 392) (3 : Int32).toNatClampNeg (vp_nar .char 101))
def r769 : Rf := sR r768 326 (va_up (r768 326) 93 (some 392))
def s769 : St := s768
def r770 : Rf := sR r769 393 (fun _ => none)
def s770 : St := sL (sI s769 393 (fun _ => 0)) 393 (fun _ => 0)
def r771 : Rf := r770
def s771 : St := sI s770 393 (upd (s770.1 393) (0 : Int32).toNatClampNeg (vp_nar .char 115))
def r772 : Rf := r771
def s772 : St := sI s771 393 (upd (s771.1 393) (1 : Int32).toNatClampNeg (vp_nar .char 116))
def r773 : Rf := r772
def s773 : St := sI s772 393 (upd (s772.1 393) (2 : Int32).toNatClampNeg (vp_nar .char 114))
def r774 : Rf := r773
def s774 : St := sI s773 393 (upd (s773.1 393) (3 : Int32).toNatClampNeg (vp_nar .char 101))
def r775 : Rf := r774
def s775 : St := sI s774 393 (upd (s774.1 393) (4 : Int32).toNatClampNeg (vp_nar .char 110))
def r776 : Rf := r775
def s776 : St := sI s775 393 (upd (s775.1 393) (5 : Int32).toNatClampNeg (vp_nar .char 103))
def r777 : Rf := r776
def s777 : St := sI s776 393 (upd (s776.1 393) (6 : Int32).toNatClampNeg (vp_nar .char 116))
def r778 : Rf := r777
def s778 : St := sI s777 393 (upd (s777.1 393) (7 : Int32).toNatClampNeg (vp_nar .char 104))
def r779 : Rf := sR r778 326 (va_up (r778 326) 94 (some 393))
def s779 : St := s778
def r780 : Rf := sR r779 394 (fun _ => none)
def s780 : St := sL (sI s779 394 (fun _ => 0)) 394 (fun _ => 0)
def r781 : Rf := r780
def s781 : St := sI s780 394 (upd (s780.1 394) (0 : Int32).toNatClampNeg (vp_nar .char 114))
def r782 : Rf := r781
def s782 : St := sI s781 394 (upd (s781.1 394) (1 : Int32).toNatClampNeg (vp_nar .char 111))
def r783 : Rf := r782
def s783 : St := sI s782 394 (upd (s782.1 394) (2 : Int32).toNatClampNeg (vp_nar .char 111))
def r784 : Rf := r783
def s784 : St := sI s783 394 (upd (s783.1 394) (3 : Int32).toNatClampNeg (vp_nar .char 116))
def r785 : Rf := r784
def s785 : St := sI s784 394 (upd (s784.1 394) (4 : Int32).toNatClampNeg (vp_nar .char 101))
def r786 : Rf := r785
def s786 : St := sI s785 394 (upd (s785.1 394) (5 : Int32).toNatClampNeg (vp_nar .char 100))
def r787 : Rf := sR r786 326 (va_up (r786 326) 95 (some 394))
def s787 : St := s786
def r788 : Rf := sR r787 395 (fun _ => none)
def s788 : St := sL (sI s787 395 (fun _ => 0)) 395 (fun _ => 0)
def r789 : Rf := r788
def s789 : St := sI s788 395 (upd (s788.1 395) (0 : Int32).toNatClampNeg (vp_nar .char 110))
def r790 : Rf := r789
def s790 : St := sI s789 395 (upd (s789.1 395) (1 : Int32).toNatClampNeg (vp_nar .char 117))
def r791 : Rf := r790
def s791 : St := sI s790 395 (upd (s790.1 395) (2 : Int32).toNatClampNeg (vp_nar .char 109))
def r792 : Rf := r791
def s792 : St := sI s791 395 (upd (s791.1 395) (3 : Int32).toNatClampNeg (vp_nar .char 98))
def r793 : Rf := r792
def s793 : St := sI s792 395 (upd (s792.1 395) (4 : Int32).toNatClampNeg (vp_nar .char 101))
def r794 : Rf := r793
def s794 : St := sI s793 395 (upd (s793.1 395) (5 : Int32).toNatClampNeg (vp_nar .char 114))
def r795 : Rf := sR r794 326 (va_up (r794 326) 96 (some 395))
def s795 : St := s794
def r796 : Rf := sR r795 396 (fun _ => none)
def s796 : St := sL (sI s795 396 (fun _ => 0)) 396 (fun _ => 0)
def r797 : Rf := r796
def s797 : St := sI s796 396 (upd (s796.1 396) (0 : Int32).toNatClampNeg (vp_nar .char 107))
def r798 : Rf := r797
def s798 : St := sI s797 396 (upd (s797.1 396) (1 : Int32).toNatClampNeg (vp_nar .char 110))
def r799 : Rf := r798
def s799 : St := sI s798 396 (upd (s798.1 396) (2 : Int32).toNatClampNeg (vp_nar .char 111))
def r800 : Rf := r799
def s800 : St := sI s799 396 (upd (s799.1 396) (3 : Int32).toNatClampNeg (vp_nar .char 119))
def r801 : Rf := r800
def s801 : St := sI s800 396 (upd (s800.1 396) (4 : Int32).toNatClampNeg (vp_nar .char 115))
def r802 : Rf := sR r801 326 (va_up (r801 326) 97 (some 396))
def s802 : St := s801
def r803 : Rf := sR r802 397 (fun _ => none)
def s803 : St := sL (sI s802 397 (fun _ => 0)) 397 (fun _ => 0)
def r804 : Rf := r803
def s804 : St := sI s803 397 (upd (s803.1 397) (0 : Int32).toNatClampNeg (vp_nar .char 114))
def r805 : Rf := r804
def s805 : St := sI s804 397 (upd (s804.1 397) (1 : Int32).toNatClampNeg (vp_nar .char 101))
def r806 : Rf := r805
def s806 : St := sI s805 397 (upd (s805.1 397) (2 : Int32).toNatClampNeg (vp_nar .char 97))
def r807 : Rf := r806
def s807 : St := sI s806 397 (upd (s806.1 397) (3 : Int32).toNatClampNeg (vp_nar .char 100))
def r808 : Rf := r807
def s808 : St := sI s807 397 (upd (s807.1 397) (4 : Int32).toNatClampNeg (vp_nar .char 121))
def r809 : Rf := sR r808 326 (va_up (r808 326) 98 (some 397))
def s809 : St := s808
def r810 : Rf := sR r809 398 (fun _ => none)
def s810 : St := sL (sI s809 398 (fun _ => 0)) 398 (fun _ => 0)
def r811 : Rf := sR r810 326 (va_up (r810 326) 99 (some 398))
def s811 : St := s810
def r812 : Rf := sR r811 399 (fun _ => none)
def s812 : St := sL (sI s811 399 (fun _ => 0)) 399 (fun _ => 0)
def r813 : Rf := sR r812 326 (va_up (r812 326) 101 (some 399))
def s813 : St := s812
def r814 : Rf := sR r813 400 (fun _ => none)
def s814 : St := sL (sI s813 400 (fun _ => 0)) 400 (fun _ => 0)
def r815 : Rf := sR r814 326 (va_up (r814 326) 105 (some 400))
def s815 : St := s814
def r816 : Rf := sR r815 401 (fun _ => none)
def s816 : St := sL (sI s815 401 (fun _ => 0)) 401 (fun _ => 0)
def r817 : Rf := sR r816 326 (va_up (r816 326) 109 (some 401))
def s817 : St := s816
section EvK1
variable {l : Launch} {X : Cx}
set_option maxRecDepth 20000 in
theorem k82 (d : Nat) : T l X (d + 1) 57 [.ref 100] 101 111 r223 s223 (Ru r231 s231) := by
  refine T_of rfl ?_
  refine Ev_aload rfl rfl rfl ?_
  refine Ev_obj rfl rfl ?_
  refine Ev_aload rfl rfl rfl ?_
  refine Ev_const rfl ?_
  refine Ev_const rfl ?_
  refine Ev_multi 6 8 rfl (by decide) (by decide) (by decide) (by decide) ⟨by decide, by decide⟩ ?_
  refine Ev_st (ρ' := r224) (σ' := s224) rfl rfl ?_
  refine Ev_putR rfl rfl (fun _ => ⟨rfl, rfl⟩) (Or.inr ⟨rfl, rfl, rfl⟩) ?_
  refine Ev_st (ρ' := r225) (σ' := s225) rfl rfl ?_
  refine Ev_aload rfl rfl rfl ?_
  refine Ev_const rfl ?_
  refine Ev_newa rfl (by decide) rfl ⟨by decide, by decide⟩ ?_
  refine Ev_st (ρ' := r226) (σ' := s226) rfl rfl ?_
  refine Ev_putR rfl rfl (fun _ => ⟨rfl, rfl⟩) (Or.inr ⟨rfl, rfl, rfl⟩) ?_
  refine Ev_st (ρ' := r227) (σ' := s227) rfl rfl ?_
  refine Ev_aload rfl rfl rfl ?_
  refine Ev_const rfl ?_
  refine Ev_newa rfl (by decide) rfl ⟨by decide, by decide⟩ ?_
  refine Ev_st (ρ' := r228) (σ' := s228) rfl rfl ?_
  refine Ev_putR rfl rfl (fun _ => ⟨rfl, rfl⟩) (Or.inr ⟨rfl, rfl, rfl⟩) ?_
  refine Ev_st (ρ' := r229) (σ' := s229) rfl rfl ?_
  refine Ev_aload rfl rfl rfl ?_
  refine Ev_const rfl ?_
  refine Ev_newa rfl (by decide) rfl ⟨by decide, by decide⟩ ?_
  refine Ev_st (ρ' := r230) (σ' := s230) rfl rfl ?_
  refine Ev_putR rfl rfl (fun _ => ⟨rfl, rfl⟩) (Or.inr ⟨rfl, rfl, rfl⟩) ?_
  refine Ev_st (ρ' := r231) (σ' := s231) rfl rfl ?_
  exact Ev_return rfl rfl rfl ⟨rfl, rfl, rfl⟩
set_option maxRecDepth 20000 in
theorem k83 (d : Nat) : T l X (d + 1) 57 [.ref 111] 112 122 r233 s233 (Ru r241 s241) := by
  refine T_of rfl ?_
  refine Ev_aload rfl rfl rfl ?_
  refine Ev_obj rfl rfl ?_
  refine Ev_aload rfl rfl rfl ?_
  refine Ev_const rfl ?_
  refine Ev_const rfl ?_
  refine Ev_multi 6 8 rfl (by decide) (by decide) (by decide) (by decide) ⟨by decide, by decide⟩ ?_
  refine Ev_st (ρ' := r234) (σ' := s234) rfl rfl ?_
  refine Ev_putR rfl rfl (fun _ => ⟨rfl, rfl⟩) (Or.inr ⟨rfl, rfl, rfl⟩) ?_
  refine Ev_st (ρ' := r235) (σ' := s235) rfl rfl ?_
  refine Ev_aload rfl rfl rfl ?_
  refine Ev_const rfl ?_
  refine Ev_newa rfl (by decide) rfl ⟨by decide, by decide⟩ ?_
  refine Ev_st (ρ' := r236) (σ' := s236) rfl rfl ?_
  refine Ev_putR rfl rfl (fun _ => ⟨rfl, rfl⟩) (Or.inr ⟨rfl, rfl, rfl⟩) ?_
  refine Ev_st (ρ' := r237) (σ' := s237) rfl rfl ?_
  refine Ev_aload rfl rfl rfl ?_
  refine Ev_const rfl ?_
  refine Ev_newa rfl (by decide) rfl ⟨by decide, by decide⟩ ?_
  refine Ev_st (ρ' := r238) (σ' := s238) rfl rfl ?_
  refine Ev_putR rfl rfl (fun _ => ⟨rfl, rfl⟩) (Or.inr ⟨rfl, rfl, rfl⟩) ?_
  refine Ev_st (ρ' := r239) (σ' := s239) rfl rfl ?_
  refine Ev_aload rfl rfl rfl ?_
  refine Ev_const rfl ?_
  refine Ev_newa rfl (by decide) rfl ⟨by decide, by decide⟩ ?_
  refine Ev_st (ρ' := r240) (σ' := s240) rfl rfl ?_
  refine Ev_putR rfl rfl (fun _ => ⟨rfl, rfl⟩) (Or.inr ⟨rfl, rfl, rfl⟩) ?_
  refine Ev_st (ρ' := r241) (σ' := s241) rfl rfl ?_
  exact Ev_return rfl rfl rfl ⟨rfl, rfl, rfl⟩
set_option maxRecDepth 20000 in
theorem k84 (d : Nat) : T l X (d + 1) 57 [.ref 122] 123 133 r243 s243 (Ru r251 s251) := by
  refine T_of rfl ?_
  refine Ev_aload rfl rfl rfl ?_
  refine Ev_obj rfl rfl ?_
  refine Ev_aload rfl rfl rfl ?_
  refine Ev_const rfl ?_
  refine Ev_const rfl ?_
  refine Ev_multi 6 8 rfl (by decide) (by decide) (by decide) (by decide) ⟨by decide, by decide⟩ ?_
  refine Ev_st (ρ' := r244) (σ' := s244) rfl rfl ?_
  refine Ev_putR rfl rfl (fun _ => ⟨rfl, rfl⟩) (Or.inr ⟨rfl, rfl, rfl⟩) ?_
  refine Ev_st (ρ' := r245) (σ' := s245) rfl rfl ?_
  refine Ev_aload rfl rfl rfl ?_
  refine Ev_const rfl ?_
  refine Ev_newa rfl (by decide) rfl ⟨by decide, by decide⟩ ?_
  refine Ev_st (ρ' := r246) (σ' := s246) rfl rfl ?_
  refine Ev_putR rfl rfl (fun _ => ⟨rfl, rfl⟩) (Or.inr ⟨rfl, rfl, rfl⟩) ?_
  refine Ev_st (ρ' := r247) (σ' := s247) rfl rfl ?_
  refine Ev_aload rfl rfl rfl ?_
  refine Ev_const rfl ?_
  refine Ev_newa rfl (by decide) rfl ⟨by decide, by decide⟩ ?_
  refine Ev_st (ρ' := r248) (σ' := s248) rfl rfl ?_
  refine Ev_putR rfl rfl (fun _ => ⟨rfl, rfl⟩) (Or.inr ⟨rfl, rfl, rfl⟩) ?_
  refine Ev_st (ρ' := r249) (σ' := s249) rfl rfl ?_
  refine Ev_aload rfl rfl rfl ?_
  refine Ev_const rfl ?_
  refine Ev_newa rfl (by decide) rfl ⟨by decide, by decide⟩ ?_
  refine Ev_st (ρ' := r250) (σ' := s250) rfl rfl ?_
  refine Ev_putR rfl rfl (fun _ => ⟨rfl, rfl⟩) (Or.inr ⟨rfl, rfl, rfl⟩) ?_
  refine Ev_st (ρ' := r251) (σ' := s251) rfl rfl ?_
  exact Ev_return rfl rfl rfl ⟨rfl, rfl, rfl⟩
set_option maxRecDepth 20000 in
theorem k85 (d : Nat) : T l X (d + 1) 57 [.ref 133] 134 144 r253 s253 (Ru r261 s261) := by
  refine T_of rfl ?_
  refine Ev_aload rfl rfl rfl ?_
  refine Ev_obj rfl rfl ?_
  refine Ev_aload rfl rfl rfl ?_
  refine Ev_const rfl ?_
  refine Ev_const rfl ?_
  refine Ev_multi 6 8 rfl (by decide) (by decide) (by decide) (by decide) ⟨by decide, by decide⟩ ?_
  refine Ev_st (ρ' := r254) (σ' := s254) rfl rfl ?_
  refine Ev_putR rfl rfl (fun _ => ⟨rfl, rfl⟩) (Or.inr ⟨rfl, rfl, rfl⟩) ?_
  refine Ev_st (ρ' := r255) (σ' := s255) rfl rfl ?_
  refine Ev_aload rfl rfl rfl ?_
  refine Ev_const rfl ?_
  refine Ev_newa rfl (by decide) rfl ⟨by decide, by decide⟩ ?_
  refine Ev_st (ρ' := r256) (σ' := s256) rfl rfl ?_
  refine Ev_putR rfl rfl (fun _ => ⟨rfl, rfl⟩) (Or.inr ⟨rfl, rfl, rfl⟩) ?_
  refine Ev_st (ρ' := r257) (σ' := s257) rfl rfl ?_
  refine Ev_aload rfl rfl rfl ?_
  refine Ev_const rfl ?_
  refine Ev_newa rfl (by decide) rfl ⟨by decide, by decide⟩ ?_
  refine Ev_st (ρ' := r258) (σ' := s258) rfl rfl ?_
  refine Ev_putR rfl rfl (fun _ => ⟨rfl, rfl⟩) (Or.inr ⟨rfl, rfl, rfl⟩) ?_
  refine Ev_st (ρ' := r259) (σ' := s259) rfl rfl ?_
  refine Ev_aload rfl rfl rfl ?_
  refine Ev_const rfl ?_
  refine Ev_newa rfl (by decide) rfl ⟨by decide, by decide⟩ ?_
  refine Ev_st (ρ' := r260) (σ' := s260) rfl rfl ?_
  refine Ev_putR rfl rfl (fun _ => ⟨rfl, rfl⟩) (Or.inr ⟨rfl, rfl, rfl⟩) ?_
  refine Ev_st (ρ' := r261) (σ' := s261) rfl rfl ?_
  exact Ev_return rfl rfl rfl ⟨rfl, rfl, rfl⟩
set_option maxRecDepth 20000 in
theorem k86 (d : Nat) : T l X (d + 1) 57 [.ref 144] 145 155 r263 s263 (Ru r271 s271) := by
  refine T_of rfl ?_
  refine Ev_aload rfl rfl rfl ?_
  refine Ev_obj rfl rfl ?_
  refine Ev_aload rfl rfl rfl ?_
  refine Ev_const rfl ?_
  refine Ev_const rfl ?_
  refine Ev_multi 6 8 rfl (by decide) (by decide) (by decide) (by decide) ⟨by decide, by decide⟩ ?_
  refine Ev_st (ρ' := r264) (σ' := s264) rfl rfl ?_
  refine Ev_putR rfl rfl (fun _ => ⟨rfl, rfl⟩) (Or.inr ⟨rfl, rfl, rfl⟩) ?_
  refine Ev_st (ρ' := r265) (σ' := s265) rfl rfl ?_
  refine Ev_aload rfl rfl rfl ?_
  refine Ev_const rfl ?_
  refine Ev_newa rfl (by decide) rfl ⟨by decide, by decide⟩ ?_
  refine Ev_st (ρ' := r266) (σ' := s266) rfl rfl ?_
  refine Ev_putR rfl rfl (fun _ => ⟨rfl, rfl⟩) (Or.inr ⟨rfl, rfl, rfl⟩) ?_
  refine Ev_st (ρ' := r267) (σ' := s267) rfl rfl ?_
  refine Ev_aload rfl rfl rfl ?_
  refine Ev_const rfl ?_
  refine Ev_newa rfl (by decide) rfl ⟨by decide, by decide⟩ ?_
  refine Ev_st (ρ' := r268) (σ' := s268) rfl rfl ?_
  refine Ev_putR rfl rfl (fun _ => ⟨rfl, rfl⟩) (Or.inr ⟨rfl, rfl, rfl⟩) ?_
  refine Ev_st (ρ' := r269) (σ' := s269) rfl rfl ?_
  refine Ev_aload rfl rfl rfl ?_
  refine Ev_const rfl ?_
  refine Ev_newa rfl (by decide) rfl ⟨by decide, by decide⟩ ?_
  refine Ev_st (ρ' := r270) (σ' := s270) rfl rfl ?_
  refine Ev_putR rfl rfl (fun _ => ⟨rfl, rfl⟩) (Or.inr ⟨rfl, rfl, rfl⟩) ?_
  refine Ev_st (ρ' := r271) (σ' := s271) rfl rfl ?_
  exact Ev_return rfl rfl rfl ⟨rfl, rfl, rfl⟩
set_option maxRecDepth 20000 in
theorem k87 (d : Nat) : T l X (d + 1) 57 [.ref 155] 156 166 r273 s273 (Ru r281 s281) := by
  refine T_of rfl ?_
  refine Ev_aload rfl rfl rfl ?_
  refine Ev_obj rfl rfl ?_
  refine Ev_aload rfl rfl rfl ?_
  refine Ev_const rfl ?_
  refine Ev_const rfl ?_
  refine Ev_multi 6 8 rfl (by decide) (by decide) (by decide) (by decide) ⟨by decide, by decide⟩ ?_
  refine Ev_st (ρ' := r274) (σ' := s274) rfl rfl ?_
  refine Ev_putR rfl rfl (fun _ => ⟨rfl, rfl⟩) (Or.inr ⟨rfl, rfl, rfl⟩) ?_
  refine Ev_st (ρ' := r275) (σ' := s275) rfl rfl ?_
  refine Ev_aload rfl rfl rfl ?_
  refine Ev_const rfl ?_
  refine Ev_newa rfl (by decide) rfl ⟨by decide, by decide⟩ ?_
  refine Ev_st (ρ' := r276) (σ' := s276) rfl rfl ?_
  refine Ev_putR rfl rfl (fun _ => ⟨rfl, rfl⟩) (Or.inr ⟨rfl, rfl, rfl⟩) ?_
  refine Ev_st (ρ' := r277) (σ' := s277) rfl rfl ?_
  refine Ev_aload rfl rfl rfl ?_
  refine Ev_const rfl ?_
  refine Ev_newa rfl (by decide) rfl ⟨by decide, by decide⟩ ?_
  refine Ev_st (ρ' := r278) (σ' := s278) rfl rfl ?_
  refine Ev_putR rfl rfl (fun _ => ⟨rfl, rfl⟩) (Or.inr ⟨rfl, rfl, rfl⟩) ?_
  refine Ev_st (ρ' := r279) (σ' := s279) rfl rfl ?_
  refine Ev_aload rfl rfl rfl ?_
  refine Ev_const rfl ?_
  refine Ev_newa rfl (by decide) rfl ⟨by decide, by decide⟩ ?_
  refine Ev_st (ρ' := r280) (σ' := s280) rfl rfl ?_
  refine Ev_putR rfl rfl (fun _ => ⟨rfl, rfl⟩) (Or.inr ⟨rfl, rfl, rfl⟩) ?_
  refine Ev_st (ρ' := r281) (σ' := s281) rfl rfl ?_
  exact Ev_return rfl rfl rfl ⟨rfl, rfl, rfl⟩
set_option maxRecDepth 20000 in
theorem k88 (d : Nat) : T l X (d + 1) 57 [.ref 166] 167 177 r283 s283 (Ru r291 s291) := by
  refine T_of rfl ?_
  refine Ev_aload rfl rfl rfl ?_
  refine Ev_obj rfl rfl ?_
  refine Ev_aload rfl rfl rfl ?_
  refine Ev_const rfl ?_
  refine Ev_const rfl ?_
  refine Ev_multi 6 8 rfl (by decide) (by decide) (by decide) (by decide) ⟨by decide, by decide⟩ ?_
  refine Ev_st (ρ' := r284) (σ' := s284) rfl rfl ?_
  refine Ev_putR rfl rfl (fun _ => ⟨rfl, rfl⟩) (Or.inr ⟨rfl, rfl, rfl⟩) ?_
  refine Ev_st (ρ' := r285) (σ' := s285) rfl rfl ?_
  refine Ev_aload rfl rfl rfl ?_
  refine Ev_const rfl ?_
  refine Ev_newa rfl (by decide) rfl ⟨by decide, by decide⟩ ?_
  refine Ev_st (ρ' := r286) (σ' := s286) rfl rfl ?_
  refine Ev_putR rfl rfl (fun _ => ⟨rfl, rfl⟩) (Or.inr ⟨rfl, rfl, rfl⟩) ?_
  refine Ev_st (ρ' := r287) (σ' := s287) rfl rfl ?_
  refine Ev_aload rfl rfl rfl ?_
  refine Ev_const rfl ?_
  refine Ev_newa rfl (by decide) rfl ⟨by decide, by decide⟩ ?_
  refine Ev_st (ρ' := r288) (σ' := s288) rfl rfl ?_
  refine Ev_putR rfl rfl (fun _ => ⟨rfl, rfl⟩) (Or.inr ⟨rfl, rfl, rfl⟩) ?_
  refine Ev_st (ρ' := r289) (σ' := s289) rfl rfl ?_
  refine Ev_aload rfl rfl rfl ?_
  refine Ev_const rfl ?_
  refine Ev_newa rfl (by decide) rfl ⟨by decide, by decide⟩ ?_
  refine Ev_st (ρ' := r290) (σ' := s290) rfl rfl ?_
  refine Ev_putR rfl rfl (fun _ => ⟨rfl, rfl⟩) (Or.inr ⟨rfl, rfl, rfl⟩) ?_
  refine Ev_st (ρ' := r291) (σ' := s291) rfl rfl ?_
  exact Ev_return rfl rfl rfl ⟨rfl, rfl, rfl⟩
set_option maxRecDepth 20000 in
theorem k89 (d : Nat) : T l X (d + 1) 57 [.ref 177] 178 188 r293 s293 (Ru r301 s301) := by
  refine T_of rfl ?_
  refine Ev_aload rfl rfl rfl ?_
  refine Ev_obj rfl rfl ?_
  refine Ev_aload rfl rfl rfl ?_
  refine Ev_const rfl ?_
  refine Ev_const rfl ?_
  refine Ev_multi 6 8 rfl (by decide) (by decide) (by decide) (by decide) ⟨by decide, by decide⟩ ?_
  refine Ev_st (ρ' := r294) (σ' := s294) rfl rfl ?_
  refine Ev_putR rfl rfl (fun _ => ⟨rfl, rfl⟩) (Or.inr ⟨rfl, rfl, rfl⟩) ?_
  refine Ev_st (ρ' := r295) (σ' := s295) rfl rfl ?_
  refine Ev_aload rfl rfl rfl ?_
  refine Ev_const rfl ?_
  refine Ev_newa rfl (by decide) rfl ⟨by decide, by decide⟩ ?_
  refine Ev_st (ρ' := r296) (σ' := s296) rfl rfl ?_
  refine Ev_putR rfl rfl (fun _ => ⟨rfl, rfl⟩) (Or.inr ⟨rfl, rfl, rfl⟩) ?_
  refine Ev_st (ρ' := r297) (σ' := s297) rfl rfl ?_
  refine Ev_aload rfl rfl rfl ?_
  refine Ev_const rfl ?_
  refine Ev_newa rfl (by decide) rfl ⟨by decide, by decide⟩ ?_
  refine Ev_st (ρ' := r298) (σ' := s298) rfl rfl ?_
  refine Ev_putR rfl rfl (fun _ => ⟨rfl, rfl⟩) (Or.inr ⟨rfl, rfl, rfl⟩) ?_
  refine Ev_st (ρ' := r299) (σ' := s299) rfl rfl ?_
  refine Ev_aload rfl rfl rfl ?_
  refine Ev_const rfl ?_
  refine Ev_newa rfl (by decide) rfl ⟨by decide, by decide⟩ ?_
  refine Ev_st (ρ' := r300) (σ' := s300) rfl rfl ?_
  refine Ev_putR rfl rfl (fun _ => ⟨rfl, rfl⟩) (Or.inr ⟨rfl, rfl, rfl⟩) ?_
  refine Ev_st (ρ' := r301) (σ' := s301) rfl rfl ?_
  exact Ev_return rfl rfl rfl ⟨rfl, rfl, rfl⟩
set_option maxRecDepth 20000 in
theorem k90 (d : Nat) : T l X (d + 1) 57 [.ref 188] 189 199 r303 s303 (Ru r311 s311) := by
  refine T_of rfl ?_
  refine Ev_aload rfl rfl rfl ?_
  refine Ev_obj rfl rfl ?_
  refine Ev_aload rfl rfl rfl ?_
  refine Ev_const rfl ?_
  refine Ev_const rfl ?_
  refine Ev_multi 6 8 rfl (by decide) (by decide) (by decide) (by decide) ⟨by decide, by decide⟩ ?_
  refine Ev_st (ρ' := r304) (σ' := s304) rfl rfl ?_
  refine Ev_putR rfl rfl (fun _ => ⟨rfl, rfl⟩) (Or.inr ⟨rfl, rfl, rfl⟩) ?_
  refine Ev_st (ρ' := r305) (σ' := s305) rfl rfl ?_
  refine Ev_aload rfl rfl rfl ?_
  refine Ev_const rfl ?_
  refine Ev_newa rfl (by decide) rfl ⟨by decide, by decide⟩ ?_
  refine Ev_st (ρ' := r306) (σ' := s306) rfl rfl ?_
  refine Ev_putR rfl rfl (fun _ => ⟨rfl, rfl⟩) (Or.inr ⟨rfl, rfl, rfl⟩) ?_
  refine Ev_st (ρ' := r307) (σ' := s307) rfl rfl ?_
  refine Ev_aload rfl rfl rfl ?_
  refine Ev_const rfl ?_
  refine Ev_newa rfl (by decide) rfl ⟨by decide, by decide⟩ ?_
  refine Ev_st (ρ' := r308) (σ' := s308) rfl rfl ?_
  refine Ev_putR rfl rfl (fun _ => ⟨rfl, rfl⟩) (Or.inr ⟨rfl, rfl, rfl⟩) ?_
  refine Ev_st (ρ' := r309) (σ' := s309) rfl rfl ?_
  refine Ev_aload rfl rfl rfl ?_
  refine Ev_const rfl ?_
  refine Ev_newa rfl (by decide) rfl ⟨by decide, by decide⟩ ?_
  refine Ev_st (ρ' := r310) (σ' := s310) rfl rfl ?_
  refine Ev_putR rfl rfl (fun _ => ⟨rfl, rfl⟩) (Or.inr ⟨rfl, rfl, rfl⟩) ?_
  refine Ev_st (ρ' := r311) (σ' := s311) rfl rfl ?_
  exact Ev_return rfl rfl rfl ⟨rfl, rfl, rfl⟩
set_option maxRecDepth 20000 in
theorem k91 (d : Nat) : T l X (d + 1) 57 [.ref 199] 200 210 r313 s313 (Ru r321 s321) := by
  refine T_of rfl ?_
  refine Ev_aload rfl rfl rfl ?_
  refine Ev_obj rfl rfl ?_
  refine Ev_aload rfl rfl rfl ?_
  refine Ev_const rfl ?_
  refine Ev_const rfl ?_
  refine Ev_multi 6 8 rfl (by decide) (by decide) (by decide) (by decide) ⟨by decide, by decide⟩ ?_
  refine Ev_st (ρ' := r314) (σ' := s314) rfl rfl ?_
  refine Ev_putR rfl rfl (fun _ => ⟨rfl, rfl⟩) (Or.inr ⟨rfl, rfl, rfl⟩) ?_
  refine Ev_st (ρ' := r315) (σ' := s315) rfl rfl ?_
  refine Ev_aload rfl rfl rfl ?_
  refine Ev_const rfl ?_
  refine Ev_newa rfl (by decide) rfl ⟨by decide, by decide⟩ ?_
  refine Ev_st (ρ' := r316) (σ' := s316) rfl rfl ?_
  refine Ev_putR rfl rfl (fun _ => ⟨rfl, rfl⟩) (Or.inr ⟨rfl, rfl, rfl⟩) ?_
  refine Ev_st (ρ' := r317) (σ' := s317) rfl rfl ?_
  refine Ev_aload rfl rfl rfl ?_
  refine Ev_const rfl ?_
  refine Ev_newa rfl (by decide) rfl ⟨by decide, by decide⟩ ?_
  refine Ev_st (ρ' := r318) (σ' := s318) rfl rfl ?_
  refine Ev_putR rfl rfl (fun _ => ⟨rfl, rfl⟩) (Or.inr ⟨rfl, rfl, rfl⟩) ?_
  refine Ev_st (ρ' := r319) (σ' := s319) rfl rfl ?_
  refine Ev_aload rfl rfl rfl ?_
  refine Ev_const rfl ?_
  refine Ev_newa rfl (by decide) rfl ⟨by decide, by decide⟩ ?_
  refine Ev_st (ρ' := r320) (σ' := s320) rfl rfl ?_
  refine Ev_putR rfl rfl (fun _ => ⟨rfl, rfl⟩) (Or.inr ⟨rfl, rfl, rfl⟩) ?_
  refine Ev_st (ρ' := r321) (σ' := s321) rfl rfl ?_
  exact Ev_return rfl rfl rfl ⟨rfl, rfl, rfl⟩
set_option maxRecDepth 20000 in
theorem k92 (d : Nat) : T l X (d + 1) 57 [.ref 210] 211 221 r323 s323 (Ru r331 s331) := by
  refine T_of rfl ?_
  refine Ev_aload rfl rfl rfl ?_
  refine Ev_obj rfl rfl ?_
  refine Ev_aload rfl rfl rfl ?_
  refine Ev_const rfl ?_
  refine Ev_const rfl ?_
  refine Ev_multi 6 8 rfl (by decide) (by decide) (by decide) (by decide) ⟨by decide, by decide⟩ ?_
  refine Ev_st (ρ' := r324) (σ' := s324) rfl rfl ?_
  refine Ev_putR rfl rfl (fun _ => ⟨rfl, rfl⟩) (Or.inr ⟨rfl, rfl, rfl⟩) ?_
  refine Ev_st (ρ' := r325) (σ' := s325) rfl rfl ?_
  refine Ev_aload rfl rfl rfl ?_
  refine Ev_const rfl ?_
  refine Ev_newa rfl (by decide) rfl ⟨by decide, by decide⟩ ?_
  refine Ev_st (ρ' := r326) (σ' := s326) rfl rfl ?_
  refine Ev_putR rfl rfl (fun _ => ⟨rfl, rfl⟩) (Or.inr ⟨rfl, rfl, rfl⟩) ?_
  refine Ev_st (ρ' := r327) (σ' := s327) rfl rfl ?_
  refine Ev_aload rfl rfl rfl ?_
  refine Ev_const rfl ?_
  refine Ev_newa rfl (by decide) rfl ⟨by decide, by decide⟩ ?_
  refine Ev_st (ρ' := r328) (σ' := s328) rfl rfl ?_
  refine Ev_putR rfl rfl (fun _ => ⟨rfl, rfl⟩) (Or.inr ⟨rfl, rfl, rfl⟩) ?_
  refine Ev_st (ρ' := r329) (σ' := s329) rfl rfl ?_
  refine Ev_aload rfl rfl rfl ?_
  refine Ev_const rfl ?_
  refine Ev_newa rfl (by decide) rfl ⟨by decide, by decide⟩ ?_
  refine Ev_st (ρ' := r330) (σ' := s330) rfl rfl ?_
  refine Ev_putR rfl rfl (fun _ => ⟨rfl, rfl⟩) (Or.inr ⟨rfl, rfl, rfl⟩) ?_
  refine Ev_st (ρ' := r331) (σ' := s331) rfl rfl ?_
  exact Ev_return rfl rfl rfl ⟨rfl, rfl, rfl⟩
set_option maxRecDepth 20000 in
theorem k93 (d : Nat) : T l X (d + 1) 57 [.ref 221] 222 232 r333 s333 (Ru r341 s341) := by
  refine T_of rfl ?_
  refine Ev_aload rfl rfl rfl ?_
  refine Ev_obj rfl rfl ?_
  refine Ev_aload rfl rfl rfl ?_
  refine Ev_const rfl ?_
  refine Ev_const rfl ?_
  refine Ev_multi 6 8 rfl (by decide) (by decide) (by decide) (by decide) ⟨by decide, by decide⟩ ?_
  refine Ev_st (ρ' := r334) (σ' := s334) rfl rfl ?_
  refine Ev_putR rfl rfl (fun _ => ⟨rfl, rfl⟩) (Or.inr ⟨rfl, rfl, rfl⟩) ?_
  refine Ev_st (ρ' := r335) (σ' := s335) rfl rfl ?_
  refine Ev_aload rfl rfl rfl ?_
  refine Ev_const rfl ?_
  refine Ev_newa rfl (by decide) rfl ⟨by decide, by decide⟩ ?_
  refine Ev_st (ρ' := r336) (σ' := s336) rfl rfl ?_
  refine Ev_putR rfl rfl (fun _ => ⟨rfl, rfl⟩) (Or.inr ⟨rfl, rfl, rfl⟩) ?_
  refine Ev_st (ρ' := r337) (σ' := s337) rfl rfl ?_
  refine Ev_aload rfl rfl rfl ?_
  refine Ev_const rfl ?_
  refine Ev_newa rfl (by decide) rfl ⟨by decide, by decide⟩ ?_
  refine Ev_st (ρ' := r338) (σ' := s338) rfl rfl ?_
  refine Ev_putR rfl rfl (fun _ => ⟨rfl, rfl⟩) (Or.inr ⟨rfl, rfl, rfl⟩) ?_
  refine Ev_st (ρ' := r339) (σ' := s339) rfl rfl ?_
  refine Ev_aload rfl rfl rfl ?_
  refine Ev_const rfl ?_
  refine Ev_newa rfl (by decide) rfl ⟨by decide, by decide⟩ ?_
  refine Ev_st (ρ' := r340) (σ' := s340) rfl rfl ?_
  refine Ev_putR rfl rfl (fun _ => ⟨rfl, rfl⟩) (Or.inr ⟨rfl, rfl, rfl⟩) ?_
  refine Ev_st (ρ' := r341) (σ' := s341) rfl rfl ?_
  exact Ev_return rfl rfl rfl ⟨rfl, rfl, rfl⟩
set_option maxRecDepth 20000 in
theorem k94 (d : Nat) : T l X (d + 1) 57 [.ref 232] 233 243 r343 s343 (Ru r351 s351) := by
  refine T_of rfl ?_
  refine Ev_aload rfl rfl rfl ?_
  refine Ev_obj rfl rfl ?_
  refine Ev_aload rfl rfl rfl ?_
  refine Ev_const rfl ?_
  refine Ev_const rfl ?_
  refine Ev_multi 6 8 rfl (by decide) (by decide) (by decide) (by decide) ⟨by decide, by decide⟩ ?_
  refine Ev_st (ρ' := r344) (σ' := s344) rfl rfl ?_
  refine Ev_putR rfl rfl (fun _ => ⟨rfl, rfl⟩) (Or.inr ⟨rfl, rfl, rfl⟩) ?_
  refine Ev_st (ρ' := r345) (σ' := s345) rfl rfl ?_
  refine Ev_aload rfl rfl rfl ?_
  refine Ev_const rfl ?_
  refine Ev_newa rfl (by decide) rfl ⟨by decide, by decide⟩ ?_
  refine Ev_st (ρ' := r346) (σ' := s346) rfl rfl ?_
  refine Ev_putR rfl rfl (fun _ => ⟨rfl, rfl⟩) (Or.inr ⟨rfl, rfl, rfl⟩) ?_
  refine Ev_st (ρ' := r347) (σ' := s347) rfl rfl ?_
  refine Ev_aload rfl rfl rfl ?_
  refine Ev_const rfl ?_
  refine Ev_newa rfl (by decide) rfl ⟨by decide, by decide⟩ ?_
  refine Ev_st (ρ' := r348) (σ' := s348) rfl rfl ?_
  refine Ev_putR rfl rfl (fun _ => ⟨rfl, rfl⟩) (Or.inr ⟨rfl, rfl, rfl⟩) ?_
  refine Ev_st (ρ' := r349) (σ' := s349) rfl rfl ?_
  refine Ev_aload rfl rfl rfl ?_
  refine Ev_const rfl ?_
  refine Ev_newa rfl (by decide) rfl ⟨by decide, by decide⟩ ?_
  refine Ev_st (ρ' := r350) (σ' := s350) rfl rfl ?_
  refine Ev_putR rfl rfl (fun _ => ⟨rfl, rfl⟩) (Or.inr ⟨rfl, rfl, rfl⟩) ?_
  refine Ev_st (ρ' := r351) (σ' := s351) rfl rfl ?_
  exact Ev_return rfl rfl rfl ⟨rfl, rfl, rfl⟩
set_option maxRecDepth 20000 in
theorem k95 (d : Nat) : T l X (d + 1) 57 [.ref 243] 244 254 r353 s353 (Ru r361 s361) := by
  refine T_of rfl ?_
  refine Ev_aload rfl rfl rfl ?_
  refine Ev_obj rfl rfl ?_
  refine Ev_aload rfl rfl rfl ?_
  refine Ev_const rfl ?_
  refine Ev_const rfl ?_
  refine Ev_multi 6 8 rfl (by decide) (by decide) (by decide) (by decide) ⟨by decide, by decide⟩ ?_
  refine Ev_st (ρ' := r354) (σ' := s354) rfl rfl ?_
  refine Ev_putR rfl rfl (fun _ => ⟨rfl, rfl⟩) (Or.inr ⟨rfl, rfl, rfl⟩) ?_
  refine Ev_st (ρ' := r355) (σ' := s355) rfl rfl ?_
  refine Ev_aload rfl rfl rfl ?_
  refine Ev_const rfl ?_
  refine Ev_newa rfl (by decide) rfl ⟨by decide, by decide⟩ ?_
  refine Ev_st (ρ' := r356) (σ' := s356) rfl rfl ?_
  refine Ev_putR rfl rfl (fun _ => ⟨rfl, rfl⟩) (Or.inr ⟨rfl, rfl, rfl⟩) ?_
  refine Ev_st (ρ' := r357) (σ' := s357) rfl rfl ?_
  refine Ev_aload rfl rfl rfl ?_
  refine Ev_const rfl ?_
  refine Ev_newa rfl (by decide) rfl ⟨by decide, by decide⟩ ?_
  refine Ev_st (ρ' := r358) (σ' := s358) rfl rfl ?_
  refine Ev_putR rfl rfl (fun _ => ⟨rfl, rfl⟩) (Or.inr ⟨rfl, rfl, rfl⟩) ?_
  refine Ev_st (ρ' := r359) (σ' := s359) rfl rfl ?_
  refine Ev_aload rfl rfl rfl ?_
  refine Ev_const rfl ?_
  refine Ev_newa rfl (by decide) rfl ⟨by decide, by decide⟩ ?_
  refine Ev_st (ρ' := r360) (σ' := s360) rfl rfl ?_
  refine Ev_putR rfl rfl (fun _ => ⟨rfl, rfl⟩) (Or.inr ⟨rfl, rfl, rfl⟩) ?_
  refine Ev_st (ρ' := r361) (σ' := s361) rfl rfl ?_
  exact Ev_return rfl rfl rfl ⟨rfl, rfl, rfl⟩
set_option maxRecDepth 20000 in
theorem k96 (d : Nat) : T l X (d + 1) 57 [.ref 254] 255 265 r363 s363 (Ru r371 s371) := by
  refine T_of rfl ?_
  refine Ev_aload rfl rfl rfl ?_
  refine Ev_obj rfl rfl ?_
  refine Ev_aload rfl rfl rfl ?_
  refine Ev_const rfl ?_
  refine Ev_const rfl ?_
  refine Ev_multi 6 8 rfl (by decide) (by decide) (by decide) (by decide) ⟨by decide, by decide⟩ ?_
  refine Ev_st (ρ' := r364) (σ' := s364) rfl rfl ?_
  refine Ev_putR rfl rfl (fun _ => ⟨rfl, rfl⟩) (Or.inr ⟨rfl, rfl, rfl⟩) ?_
  refine Ev_st (ρ' := r365) (σ' := s365) rfl rfl ?_
  refine Ev_aload rfl rfl rfl ?_
  refine Ev_const rfl ?_
  refine Ev_newa rfl (by decide) rfl ⟨by decide, by decide⟩ ?_
  refine Ev_st (ρ' := r366) (σ' := s366) rfl rfl ?_
  refine Ev_putR rfl rfl (fun _ => ⟨rfl, rfl⟩) (Or.inr ⟨rfl, rfl, rfl⟩) ?_
  refine Ev_st (ρ' := r367) (σ' := s367) rfl rfl ?_
  refine Ev_aload rfl rfl rfl ?_
  refine Ev_const rfl ?_
  refine Ev_newa rfl (by decide) rfl ⟨by decide, by decide⟩ ?_
  refine Ev_st (ρ' := r368) (σ' := s368) rfl rfl ?_
  refine Ev_putR rfl rfl (fun _ => ⟨rfl, rfl⟩) (Or.inr ⟨rfl, rfl, rfl⟩) ?_
  refine Ev_st (ρ' := r369) (σ' := s369) rfl rfl ?_
  refine Ev_aload rfl rfl rfl ?_
  refine Ev_const rfl ?_
  refine Ev_newa rfl (by decide) rfl ⟨by decide, by decide⟩ ?_
  refine Ev_st (ρ' := r370) (σ' := s370) rfl rfl ?_
  refine Ev_putR rfl rfl (fun _ => ⟨rfl, rfl⟩) (Or.inr ⟨rfl, rfl, rfl⟩) ?_
  refine Ev_st (ρ' := r371) (σ' := s371) rfl rfl ?_
  exact Ev_return rfl rfl rfl ⟨rfl, rfl, rfl⟩
set_option maxRecDepth 20000 in
theorem k97 (d : Nat) : T l X (d + 2) 74 [.ref 43] 44 265 r170 s170 (Ru r372 s372) := by
  refine T_of rfl ?_
  refine Ev_aload rfl rfl rfl ?_
  refine Ev_obj rfl rfl ?_
  refine Ev_aload rfl rfl rfl ?_
  refine Ev_const rfl ?_
  refine Ev_anew rfl (by decide) rfl ⟨by decide, by decide⟩ ?_
  refine Ev_st (ρ' := r171) (σ' := s171) rfl rfl ?_
  refine Ev_putR rfl rfl (fun _ => ⟨rfl, rfl⟩) (Or.inr ⟨rfl, rfl, rfl⟩) ?_
  refine Ev_st (ρ' := r172) (σ' := s172) rfl rfl ?_
  refine Ev_const rfl ?_
  refine Ev_istore rfl ?_
  refine Ev_iload rfl rfl ?_
  refine Ev_const rfl ?_
  refine Ev_icmp_ge rfl (fun h => absurd h (by decide)) (fun _ => ?_)
  refine Ev_aload rfl rfl rfl ?_
  refine Ev_getR (k' := 44) rfl rfl (by decide +kernel) ?_
  refine Ev_iload rfl rfl ?_
  refine Ev_new rfl rfl ⟨by decide, by decide⟩ ?_
  refine Ev_st (ρ' := r173) (σ' := s173) rfl rfl ?_
  refine Ev_dup rfl (fun _ q => nomatch q) ?_
  refine Ev_callI rfl rfl rfl rfl ⟨by decide, by decide, by decide⟩ (k77 d) ?_
  rintro v ρ' σ' ⟨rfl, rfl, rfl⟩
  refine Ev_aast rfl rfl rfl (by unfold vp_in; decide) ?_
  refine Ev_st (ρ' := r182) (σ' := s182) rfl rfl ?_
  refine Ev_iincE (v := 1) rfl rfl (by decide) ?_
  refine Ev_goto rfl ?_
  refine Ev_iload rfl rfl ?_
  refine Ev_const rfl ?_
  refine Ev_icmp_ge rfl (fun h => absurd h (by decide)) (fun _ => ?_)
  refine Ev_aload rfl rfl rfl ?_
  refine Ev_getR (k' := 44) rfl rfl (by decide +kernel) ?_
  refine Ev_iload rfl rfl ?_
  refine Ev_new rfl rfl ⟨by decide, by decide⟩ ?_
  refine Ev_st (ρ' := r183) (σ' := s183) rfl rfl ?_
  refine Ev_dup rfl (fun _ q => nomatch q) ?_
  refine Ev_callI rfl rfl rfl rfl ⟨by decide, by decide, by decide⟩ (k78 d) ?_
  rintro v ρ' σ' ⟨rfl, rfl, rfl⟩
  refine Ev_aast rfl rfl rfl (by unfold vp_in; decide) ?_
  refine Ev_st (ρ' := r192) (σ' := s192) rfl rfl ?_
  refine Ev_iincE (v := 2) rfl rfl (by decide) ?_
  refine Ev_goto rfl ?_
  refine Ev_iload rfl rfl ?_
  refine Ev_const rfl ?_
  refine Ev_icmp_ge rfl (fun h => absurd h (by decide)) (fun _ => ?_)
  refine Ev_aload rfl rfl rfl ?_
  refine Ev_getR (k' := 44) rfl rfl (by decide +kernel) ?_
  refine Ev_iload rfl rfl ?_
  refine Ev_new rfl rfl ⟨by decide, by decide⟩ ?_
  refine Ev_st (ρ' := r193) (σ' := s193) rfl rfl ?_
  refine Ev_dup rfl (fun _ q => nomatch q) ?_
  refine Ev_callI rfl rfl rfl rfl ⟨by decide, by decide, by decide⟩ (k79 d) ?_
  rintro v ρ' σ' ⟨rfl, rfl, rfl⟩
  refine Ev_aast rfl rfl rfl (by unfold vp_in; decide) ?_
  refine Ev_st (ρ' := r202) (σ' := s202) rfl rfl ?_
  refine Ev_iincE (v := 3) rfl rfl (by decide) ?_
  refine Ev_goto rfl ?_
  refine Ev_iload rfl rfl ?_
  refine Ev_const rfl ?_
  refine Ev_icmp_ge rfl (fun h => absurd h (by decide)) (fun _ => ?_)
  refine Ev_aload rfl rfl rfl ?_
  refine Ev_getR (k' := 44) rfl rfl (by decide +kernel) ?_
  refine Ev_iload rfl rfl ?_
  refine Ev_new rfl rfl ⟨by decide, by decide⟩ ?_
  refine Ev_st (ρ' := r203) (σ' := s203) rfl rfl ?_
  refine Ev_dup rfl (fun _ q => nomatch q) ?_
  refine Ev_callI rfl rfl rfl rfl ⟨by decide, by decide, by decide⟩ (k80 d) ?_
  rintro v ρ' σ' ⟨rfl, rfl, rfl⟩
  refine Ev_aast rfl rfl rfl (by unfold vp_in; decide) ?_
  refine Ev_st (ρ' := r212) (σ' := s212) rfl rfl ?_
  refine Ev_iincE (v := 4) rfl rfl (by decide) ?_
  refine Ev_goto rfl ?_
  refine Ev_iload rfl rfl ?_
  refine Ev_const rfl ?_
  refine Ev_icmp_ge rfl (fun h => absurd h (by decide)) (fun _ => ?_)
  refine Ev_aload rfl rfl rfl ?_
  refine Ev_getR (k' := 44) rfl rfl (by decide +kernel) ?_
  refine Ev_iload rfl rfl ?_
  refine Ev_new rfl rfl ⟨by decide, by decide⟩ ?_
  refine Ev_st (ρ' := r213) (σ' := s213) rfl rfl ?_
  refine Ev_dup rfl (fun _ q => nomatch q) ?_
  refine Ev_callI rfl rfl rfl rfl ⟨by decide, by decide, by decide⟩ (k81 d) ?_
  rintro v ρ' σ' ⟨rfl, rfl, rfl⟩
  refine Ev_aast rfl rfl rfl (by unfold vp_in; decide) ?_
  refine Ev_st (ρ' := r222) (σ' := s222) rfl rfl ?_
  refine Ev_iincE (v := 5) rfl rfl (by decide) ?_
  refine Ev_goto rfl ?_
  refine Ev_iload rfl rfl ?_
  refine Ev_const rfl ?_
  refine Ev_icmp_ge rfl (fun h => absurd h (by decide)) (fun _ => ?_)
  refine Ev_aload rfl rfl rfl ?_
  refine Ev_getR (k' := 44) rfl rfl (by decide +kernel) ?_
  refine Ev_iload rfl rfl ?_
  refine Ev_new rfl rfl ⟨by decide, by decide⟩ ?_
  refine Ev_st (ρ' := r223) (σ' := s223) rfl rfl ?_
  refine Ev_dup rfl (fun _ q => nomatch q) ?_
  refine Ev_callI rfl rfl rfl rfl ⟨by decide, by decide, by decide⟩ (k82 d) ?_
  rintro v ρ' σ' ⟨rfl, rfl, rfl⟩
  refine Ev_aast rfl rfl rfl (by unfold vp_in; decide) ?_
  refine Ev_st (ρ' := r232) (σ' := s232) rfl rfl ?_
  refine Ev_iincE (v := 6) rfl rfl (by decide) ?_
  refine Ev_goto rfl ?_
  refine Ev_iload rfl rfl ?_
  refine Ev_const rfl ?_
  refine Ev_icmp_ge rfl (fun h => absurd h (by decide)) (fun _ => ?_)
  refine Ev_aload rfl rfl rfl ?_
  refine Ev_getR (k' := 44) rfl rfl (by decide +kernel) ?_
  refine Ev_iload rfl rfl ?_
  refine Ev_new rfl rfl ⟨by decide, by decide⟩ ?_
  refine Ev_st (ρ' := r233) (σ' := s233) rfl rfl ?_
  refine Ev_dup rfl (fun _ q => nomatch q) ?_
  refine Ev_callI rfl rfl rfl rfl ⟨by decide, by decide, by decide⟩ (k83 d) ?_
  rintro v ρ' σ' ⟨rfl, rfl, rfl⟩
  refine Ev_aast rfl rfl rfl (by unfold vp_in; decide) ?_
  refine Ev_st (ρ' := r242) (σ' := s242) rfl rfl ?_
  refine Ev_iincE (v := 7) rfl rfl (by decide) ?_
  refine Ev_goto rfl ?_
  refine Ev_iload rfl rfl ?_
  refine Ev_const rfl ?_
  refine Ev_icmp_ge rfl (fun h => absurd h (by decide)) (fun _ => ?_)
  refine Ev_aload rfl rfl rfl ?_
  refine Ev_getR (k' := 44) rfl rfl (by decide +kernel) ?_
  refine Ev_iload rfl rfl ?_
  refine Ev_new rfl rfl ⟨by decide, by decide⟩ ?_
  refine Ev_st (ρ' := r243) (σ' := s243) rfl rfl ?_
  refine Ev_dup rfl (fun _ q => nomatch q) ?_
  refine Ev_callI rfl rfl rfl rfl ⟨by decide, by decide, by decide⟩ (k84 d) ?_
  rintro v ρ' σ' ⟨rfl, rfl, rfl⟩
  refine Ev_aast rfl rfl rfl (by unfold vp_in; decide) ?_
  refine Ev_st (ρ' := r252) (σ' := s252) rfl rfl ?_
  refine Ev_iincE (v := 8) rfl rfl (by decide) ?_
  refine Ev_goto rfl ?_
  refine Ev_iload rfl rfl ?_
  refine Ev_const rfl ?_
  refine Ev_icmp_ge rfl (fun h => absurd h (by decide)) (fun _ => ?_)
  refine Ev_aload rfl rfl rfl ?_
  refine Ev_getR (k' := 44) rfl rfl (by decide +kernel) ?_
  refine Ev_iload rfl rfl ?_
  refine Ev_new rfl rfl ⟨by decide, by decide⟩ ?_
  refine Ev_st (ρ' := r253) (σ' := s253) rfl rfl ?_
  refine Ev_dup rfl (fun _ q => nomatch q) ?_
  refine Ev_callI rfl rfl rfl rfl ⟨by decide, by decide, by decide⟩ (k85 d) ?_
  rintro v ρ' σ' ⟨rfl, rfl, rfl⟩
  refine Ev_aast rfl rfl rfl (by unfold vp_in; decide) ?_
  refine Ev_st (ρ' := r262) (σ' := s262) rfl rfl ?_
  refine Ev_iincE (v := 9) rfl rfl (by decide) ?_
  refine Ev_goto rfl ?_
  refine Ev_iload rfl rfl ?_
  refine Ev_const rfl ?_
  refine Ev_icmp_ge rfl (fun h => absurd h (by decide)) (fun _ => ?_)
  refine Ev_aload rfl rfl rfl ?_
  refine Ev_getR (k' := 44) rfl rfl (by decide +kernel) ?_
  refine Ev_iload rfl rfl ?_
  refine Ev_new rfl rfl ⟨by decide, by decide⟩ ?_
  refine Ev_st (ρ' := r263) (σ' := s263) rfl rfl ?_
  refine Ev_dup rfl (fun _ q => nomatch q) ?_
  refine Ev_callI rfl rfl rfl rfl ⟨by decide, by decide, by decide⟩ (k86 d) ?_
  rintro v ρ' σ' ⟨rfl, rfl, rfl⟩
  refine Ev_aast rfl rfl rfl (by unfold vp_in; decide) ?_
  refine Ev_st (ρ' := r272) (σ' := s272) rfl rfl ?_
  refine Ev_iincE (v := 10) rfl rfl (by decide) ?_
  refine Ev_goto rfl ?_
  refine Ev_iload rfl rfl ?_
  refine Ev_const rfl ?_
  refine Ev_icmp_ge rfl (fun h => absurd h (by decide)) (fun _ => ?_)
  refine Ev_aload rfl rfl rfl ?_
  refine Ev_getR (k' := 44) rfl rfl (by decide +kernel) ?_
  refine Ev_iload rfl rfl ?_
  refine Ev_new rfl rfl ⟨by decide, by decide⟩ ?_
  refine Ev_st (ρ' := r273) (σ' := s273) rfl rfl ?_
  refine Ev_dup rfl (fun _ q => nomatch q) ?_
  refine Ev_callI rfl rfl rfl rfl ⟨by decide, by decide, by decide⟩ (k87 d) ?_
  rintro v ρ' σ' ⟨rfl, rfl, rfl⟩
  refine Ev_aast rfl rfl rfl (by unfold vp_in; decide) ?_
  refine Ev_st (ρ' := r282) (σ' := s282) rfl rfl ?_
  refine Ev_iincE (v := 11) rfl rfl (by decide) ?_
  refine Ev_goto rfl ?_
  refine Ev_iload rfl rfl ?_
  refine Ev_const rfl ?_
  refine Ev_icmp_ge rfl (fun h => absurd h (by decide)) (fun _ => ?_)
  refine Ev_aload rfl rfl rfl ?_
  refine Ev_getR (k' := 44) rfl rfl (by decide +kernel) ?_
  refine Ev_iload rfl rfl ?_
  refine Ev_new rfl rfl ⟨by decide, by decide⟩ ?_
  refine Ev_st (ρ' := r283) (σ' := s283) rfl rfl ?_
  refine Ev_dup rfl (fun _ q => nomatch q) ?_
  refine Ev_callI rfl rfl rfl rfl ⟨by decide, by decide, by decide⟩ (k88 d) ?_
  rintro v ρ' σ' ⟨rfl, rfl, rfl⟩
  refine Ev_aast rfl rfl rfl (by unfold vp_in; decide) ?_
  refine Ev_st (ρ' := r292) (σ' := s292) rfl rfl ?_
  refine Ev_iincE (v := 12) rfl rfl (by decide) ?_
  refine Ev_goto rfl ?_
  refine Ev_iload rfl rfl ?_
  refine Ev_const rfl ?_
  refine Ev_icmp_ge rfl (fun h => absurd h (by decide)) (fun _ => ?_)
  refine Ev_aload rfl rfl rfl ?_
  refine Ev_getR (k' := 44) rfl rfl (by decide +kernel) ?_
  refine Ev_iload rfl rfl ?_
  refine Ev_new rfl rfl ⟨by decide, by decide⟩ ?_
  refine Ev_st (ρ' := r293) (σ' := s293) rfl rfl ?_
  refine Ev_dup rfl (fun _ q => nomatch q) ?_
  refine Ev_callI rfl rfl rfl rfl ⟨by decide, by decide, by decide⟩ (k89 d) ?_
  rintro v ρ' σ' ⟨rfl, rfl, rfl⟩
  refine Ev_aast rfl rfl rfl (by unfold vp_in; decide) ?_
  refine Ev_st (ρ' := r302) (σ' := s302) rfl rfl ?_
  refine Ev_iincE (v := 13) rfl rfl (by decide) ?_
  refine Ev_goto rfl ?_
  refine Ev_iload rfl rfl ?_
  refine Ev_const rfl ?_
  refine Ev_icmp_ge rfl (fun h => absurd h (by decide)) (fun _ => ?_)
  refine Ev_aload rfl rfl rfl ?_
  refine Ev_getR (k' := 44) rfl rfl (by decide +kernel) ?_
  refine Ev_iload rfl rfl ?_
  refine Ev_new rfl rfl ⟨by decide, by decide⟩ ?_
  refine Ev_st (ρ' := r303) (σ' := s303) rfl rfl ?_
  refine Ev_dup rfl (fun _ q => nomatch q) ?_
  refine Ev_callI rfl rfl rfl rfl ⟨by decide, by decide, by decide⟩ (k90 d) ?_
  rintro v ρ' σ' ⟨rfl, rfl, rfl⟩
  refine Ev_aast rfl rfl rfl (by unfold vp_in; decide) ?_
  refine Ev_st (ρ' := r312) (σ' := s312) rfl rfl ?_
  refine Ev_iincE (v := 14) rfl rfl (by decide) ?_
  refine Ev_goto rfl ?_
  refine Ev_iload rfl rfl ?_
  refine Ev_const rfl ?_
  refine Ev_icmp_ge rfl (fun h => absurd h (by decide)) (fun _ => ?_)
  refine Ev_aload rfl rfl rfl ?_
  refine Ev_getR (k' := 44) rfl rfl (by decide +kernel) ?_
  refine Ev_iload rfl rfl ?_
  refine Ev_new rfl rfl ⟨by decide, by decide⟩ ?_
  refine Ev_st (ρ' := r313) (σ' := s313) rfl rfl ?_
  refine Ev_dup rfl (fun _ q => nomatch q) ?_
  refine Ev_callI rfl rfl rfl rfl ⟨by decide, by decide, by decide⟩ (k91 d) ?_
  rintro v ρ' σ' ⟨rfl, rfl, rfl⟩
  refine Ev_aast rfl rfl rfl (by unfold vp_in; decide) ?_
  refine Ev_st (ρ' := r322) (σ' := s322) rfl rfl ?_
  refine Ev_iincE (v := 15) rfl rfl (by decide) ?_
  refine Ev_goto rfl ?_
  refine Ev_iload rfl rfl ?_
  refine Ev_const rfl ?_
  refine Ev_icmp_ge rfl (fun h => absurd h (by decide)) (fun _ => ?_)
  refine Ev_aload rfl rfl rfl ?_
  refine Ev_getR (k' := 44) rfl rfl (by decide +kernel) ?_
  refine Ev_iload rfl rfl ?_
  refine Ev_new rfl rfl ⟨by decide, by decide⟩ ?_
  refine Ev_st (ρ' := r323) (σ' := s323) rfl rfl ?_
  refine Ev_dup rfl (fun _ q => nomatch q) ?_
  refine Ev_callI rfl rfl rfl rfl ⟨by decide, by decide, by decide⟩ (k92 d) ?_
  rintro v ρ' σ' ⟨rfl, rfl, rfl⟩
  refine Ev_aast rfl rfl rfl (by unfold vp_in; decide) ?_
  refine Ev_st (ρ' := r332) (σ' := s332) rfl rfl ?_
  refine Ev_iincE (v := 16) rfl rfl (by decide) ?_
  refine Ev_goto rfl ?_
  refine Ev_iload rfl rfl ?_
  refine Ev_const rfl ?_
  refine Ev_icmp_ge rfl (fun h => absurd h (by decide)) (fun _ => ?_)
  refine Ev_aload rfl rfl rfl ?_
  refine Ev_getR (k' := 44) rfl rfl (by decide +kernel) ?_
  refine Ev_iload rfl rfl ?_
  refine Ev_new rfl rfl ⟨by decide, by decide⟩ ?_
  refine Ev_st (ρ' := r333) (σ' := s333) rfl rfl ?_
  refine Ev_dup rfl (fun _ q => nomatch q) ?_
  refine Ev_callI rfl rfl rfl rfl ⟨by decide, by decide, by decide⟩ (k93 d) ?_
  rintro v ρ' σ' ⟨rfl, rfl, rfl⟩
  refine Ev_aast rfl rfl rfl (by unfold vp_in; decide) ?_
  refine Ev_st (ρ' := r342) (σ' := s342) rfl rfl ?_
  refine Ev_iincE (v := 17) rfl rfl (by decide) ?_
  refine Ev_goto rfl ?_
  refine Ev_iload rfl rfl ?_
  refine Ev_const rfl ?_
  refine Ev_icmp_ge rfl (fun h => absurd h (by decide)) (fun _ => ?_)
  refine Ev_aload rfl rfl rfl ?_
  refine Ev_getR (k' := 44) rfl rfl (by decide +kernel) ?_
  refine Ev_iload rfl rfl ?_
  refine Ev_new rfl rfl ⟨by decide, by decide⟩ ?_
  refine Ev_st (ρ' := r343) (σ' := s343) rfl rfl ?_
  refine Ev_dup rfl (fun _ q => nomatch q) ?_
  refine Ev_callI rfl rfl rfl rfl ⟨by decide, by decide, by decide⟩ (k94 d) ?_
  rintro v ρ' σ' ⟨rfl, rfl, rfl⟩
  refine Ev_aast rfl rfl rfl (by unfold vp_in; decide) ?_
  refine Ev_st (ρ' := r352) (σ' := s352) rfl rfl ?_
  refine Ev_iincE (v := 18) rfl rfl (by decide) ?_
  refine Ev_goto rfl ?_
  refine Ev_iload rfl rfl ?_
  refine Ev_const rfl ?_
  refine Ev_icmp_ge rfl (fun h => absurd h (by decide)) (fun _ => ?_)
  refine Ev_aload rfl rfl rfl ?_
  refine Ev_getR (k' := 44) rfl rfl (by decide +kernel) ?_
  refine Ev_iload rfl rfl ?_
  refine Ev_new rfl rfl ⟨by decide, by decide⟩ ?_
  refine Ev_st (ρ' := r353) (σ' := s353) rfl rfl ?_
  refine Ev_dup rfl (fun _ q => nomatch q) ?_
  refine Ev_callI rfl rfl rfl rfl ⟨by decide, by decide, by decide⟩ (k95 d) ?_
  rintro v ρ' σ' ⟨rfl, rfl, rfl⟩
  refine Ev_aast rfl rfl rfl (by unfold vp_in; decide) ?_
  refine Ev_st (ρ' := r362) (σ' := s362) rfl rfl ?_
  refine Ev_iincE (v := 19) rfl rfl (by decide) ?_
  refine Ev_goto rfl ?_
  refine Ev_iload rfl rfl ?_
  refine Ev_const rfl ?_
  refine Ev_icmp_ge rfl (fun h => absurd h (by decide)) (fun _ => ?_)
  refine Ev_aload rfl rfl rfl ?_
  refine Ev_getR (k' := 44) rfl rfl (by decide +kernel) ?_
  refine Ev_iload rfl rfl ?_
  refine Ev_new rfl rfl ⟨by decide, by decide⟩ ?_
  refine Ev_st (ρ' := r363) (σ' := s363) rfl rfl ?_
  refine Ev_dup rfl (fun _ q => nomatch q) ?_
  refine Ev_callI rfl rfl rfl rfl ⟨by decide, by decide, by decide⟩ (k96 d) ?_
  rintro v ρ' σ' ⟨rfl, rfl, rfl⟩
  refine Ev_aast rfl rfl rfl (by unfold vp_in; decide) ?_
  refine Ev_st (ρ' := r372) (σ' := s372) rfl rfl ?_
  refine Ev_iincE (v := 20) rfl rfl (by decide) ?_
  refine Ev_goto rfl ?_
  refine Ev_iload rfl rfl ?_
  refine Ev_const rfl ?_
  refine Ev_icmp_ge rfl (fun _ => ?_) (fun h => absurd (by decide) h)
  exact Ev_return rfl rfl rfl ⟨rfl, rfl, rfl⟩
set_option maxRecDepth 20000 in
theorem k98 (d : Nat) : T l X (d + 1) 45 [.ref 265, .ref 2] 266 267 r374 s374 (Ru r377 s377) := by
  refine T_of rfl ?_
  refine Ev_aload rfl rfl rfl ?_
  refine Ev_obj rfl rfl ?_
  refine Ev_aload rfl rfl rfl ?_
  refine Ev_const rfl ?_
  refine Ev_newa rfl (by decide) rfl ⟨by decide, by decide⟩ ?_
  refine Ev_st (ρ' := r375) (σ' := s375) rfl rfl ?_
  refine Ev_putR rfl rfl (fun _ => ⟨rfl, rfl⟩) (Or.inr ⟨rfl, rfl, rfl⟩) ?_
  refine Ev_st (ρ' := r376) (σ' := s376) rfl rfl ?_
  refine Ev_aload rfl rfl rfl ?_
  refine Ev_aload rfl rfl rfl ?_
  refine Ev_putR rfl rfl (fun _ => ⟨rfl, rfl⟩) (Or.inl rfl) ?_
  refine Ev_st (ρ' := r377) (σ' := s377) rfl rfl ?_
  exact Ev_return rfl rfl rfl ⟨rfl, rfl, rfl⟩
set_option maxRecDepth 20000 in
theorem k99 (d : Nat) : T l X (d + 1) 57 [.ref 268] 269 279 r380 s380 (Ru r388 s388) := by
  refine T_of rfl ?_
  refine Ev_aload rfl rfl rfl ?_
  refine Ev_obj rfl rfl ?_
  refine Ev_aload rfl rfl rfl ?_
  refine Ev_const rfl ?_
  refine Ev_const rfl ?_
  refine Ev_multi 6 8 rfl (by decide) (by decide) (by decide) (by decide) ⟨by decide, by decide⟩ ?_
  refine Ev_st (ρ' := r381) (σ' := s381) rfl rfl ?_
  refine Ev_putR rfl rfl (fun _ => ⟨rfl, rfl⟩) (Or.inr ⟨rfl, rfl, rfl⟩) ?_
  refine Ev_st (ρ' := r382) (σ' := s382) rfl rfl ?_
  refine Ev_aload rfl rfl rfl ?_
  refine Ev_const rfl ?_
  refine Ev_newa rfl (by decide) rfl ⟨by decide, by decide⟩ ?_
  refine Ev_st (ρ' := r383) (σ' := s383) rfl rfl ?_
  refine Ev_putR rfl rfl (fun _ => ⟨rfl, rfl⟩) (Or.inr ⟨rfl, rfl, rfl⟩) ?_
  refine Ev_st (ρ' := r384) (σ' := s384) rfl rfl ?_
  refine Ev_aload rfl rfl rfl ?_
  refine Ev_const rfl ?_
  refine Ev_newa rfl (by decide) rfl ⟨by decide, by decide⟩ ?_
  refine Ev_st (ρ' := r385) (σ' := s385) rfl rfl ?_
  refine Ev_putR rfl rfl (fun _ => ⟨rfl, rfl⟩) (Or.inr ⟨rfl, rfl, rfl⟩) ?_
  refine Ev_st (ρ' := r386) (σ' := s386) rfl rfl ?_
  refine Ev_aload rfl rfl rfl ?_
  refine Ev_const rfl ?_
  refine Ev_newa rfl (by decide) rfl ⟨by decide, by decide⟩ ?_
  refine Ev_st (ρ' := r387) (σ' := s387) rfl rfl ?_
  refine Ev_putR rfl rfl (fun _ => ⟨rfl, rfl⟩) (Or.inr ⟨rfl, rfl, rfl⟩) ?_
  refine Ev_st (ρ' := r388) (σ' := s388) rfl rfl ?_
  exact Ev_return rfl rfl rfl ⟨rfl, rfl, rfl⟩
set_option maxRecDepth 20000 in
theorem k100 (d : Nat) : T l X (d + 2) 10 [.ref 267, .ref 265, .ref 32] 268 316 r379 s379 (Ru r409 s409) := by
  refine T_of rfl ?_
  refine Ev_aload rfl rfl rfl ?_
  refine Ev_obj rfl rfl ?_
  refine Ev_aload rfl rfl rfl ?_
  refine Ev_new rfl rfl ⟨by decide, by decide⟩ ?_
  refine Ev_st (ρ' := r380) (σ' := s380) rfl rfl ?_
  refine Ev_dup rfl (fun _ q => nomatch q) ?_
  refine Ev_callI rfl rfl rfl rfl ⟨by decide, by decide, by decide⟩ (k99 d) ?_
  rintro v ρ' σ' ⟨rfl, rfl, rfl⟩
  refine Ev_putR rfl rfl (fun _ => ⟨rfl, rfl⟩) (Or.inr ⟨rfl, rfl, rfl⟩) ?_
  refine Ev_st (ρ' := r389) (σ' := s389) rfl rfl ?_
  refine Ev_aload rfl rfl rfl ?_
  refine Ev_const rfl ?_
  refine Ev_newa rfl (by decide) rfl ⟨by decide, by decide⟩ ?_
  refine Ev_st (ρ' := r390) (σ' := s390) rfl rfl ?_
  refine Ev_putR rfl rfl (fun _ => ⟨rfl, rfl⟩) (Or.inr ⟨rfl, rfl, rfl⟩) ?_
  refine Ev_st (ρ' := r391) (σ' := s391) rfl rfl ?_
  refine Ev_aload rfl rfl rfl ?_
  refine Ev_const rfl ?_
  refine Ev_const rfl ?_
  refine Ev_multi 5 8 rfl (by decide) (by decide) (by decide) (by decide) ⟨by decide, by decide⟩ ?_
  refine Ev_st (ρ' := r392) (σ' := s392) rfl rfl ?_
  refine Ev_putR rfl rfl (fun _ => ⟨rfl, rfl⟩) (Or.inr ⟨rfl, rfl, rfl⟩) ?_
  refine Ev_st (ρ' := r393) (σ' := s393) rfl rfl ?_
  refine Ev_aload rfl rfl rfl ?_
  refine Ev_const rfl ?_
  refine Ev_newa rfl (by decide) rfl ⟨by decide, by decide⟩ ?_
  refine Ev_st (ρ' := r394) (σ' := s394) rfl rfl ?_
  refine Ev_putR rfl rfl (fun _ => ⟨rfl, rfl⟩) (Or.inr ⟨rfl, rfl, rfl⟩) ?_
  refine Ev_st (ρ' := r395) (σ' := s395) rfl rfl ?_
  refine Ev_aload rfl rfl rfl ?_
  refine Ev_const rfl ?_
  refine Ev_newa rfl (by decide) rfl ⟨by decide, by decide⟩ ?_
  refine Ev_st (ρ' := r396) (σ' := s396) rfl rfl ?_
  refine Ev_putR rfl rfl (fun _ => ⟨rfl, rfl⟩) (Or.inr ⟨rfl, rfl, rfl⟩) ?_
  refine Ev_st (ρ' := r397) (σ' := s397) rfl rfl ?_
  refine Ev_aload rfl rfl rfl ?_
  refine Ev_const rfl ?_
  refine Ev_const rfl ?_
  refine Ev_multi 6 8 rfl (by decide) (by decide) (by decide) (by decide) ⟨by decide, by decide⟩ ?_
  refine Ev_st (ρ' := r398) (σ' := s398) rfl rfl ?_
  refine Ev_putR rfl rfl (fun _ => ⟨rfl, rfl⟩) (Or.inr ⟨rfl, rfl, rfl⟩) ?_
  refine Ev_st (ρ' := r399) (σ' := s399) rfl rfl ?_
  refine Ev_aload rfl rfl rfl ?_
  refine Ev_const rfl ?_
  refine Ev_const rfl ?_
  refine Ev_multi 7 256 rfl (by decide) (by decide) (by decide) (by decide) ⟨by decide, by decide⟩ ?_
  refine Ev_st (ρ' := r400) (σ' := s400) rfl rfl ?_
  refine Ev_putR rfl rfl (fun _ => ⟨rfl, rfl⟩) (Or.inr ⟨rfl, rfl, rfl⟩) ?_
  refine Ev_st (ρ' := r401) (σ' := s401) rfl rfl ?_
  refine Ev_aload rfl rfl rfl ?_
  refine Ev_const rfl ?_
  refine Ev_newa rfl (by decide) rfl ⟨by decide, by decide⟩ ?_
  refine Ev_st (ρ' := r402) (σ' := s402) rfl rfl ?_
  refine Ev_putR rfl rfl (fun _ => ⟨rfl, rfl⟩) (Or.inr ⟨rfl, rfl, rfl⟩) ?_
  refine Ev_st (ρ' := r403) (σ' := s403) rfl rfl ?_
  refine Ev_aload rfl rfl rfl ?_
  refine Ev_const rfl ?_
  refine Ev_const rfl ?_
  refine Ev_multi 10 8 rfl (by decide) (by decide) (by decide) (by decide) ⟨by decide, by decide⟩ ?_
  refine Ev_st (ρ' := r404) (σ' := s404) rfl rfl ?_
  refine Ev_putR rfl rfl (fun _ => ⟨rfl, rfl⟩) (Or.inr ⟨rfl, rfl, rfl⟩) ?_
  refine Ev_st (ρ' := r405) (σ' := s405) rfl rfl ?_
  refine Ev_aload rfl rfl rfl ?_
  refine Ev_const rfl ?_
  refine Ev_newa rfl (by decide) rfl ⟨by decide, by decide⟩ ?_
  refine Ev_st (ρ' := r406) (σ' := s406) rfl rfl ?_
  refine Ev_putR rfl rfl (fun _ => ⟨rfl, rfl⟩) (Or.inr ⟨rfl, rfl, rfl⟩) ?_
  refine Ev_st (ρ' := r407) (σ' := s407) rfl rfl ?_
  refine Ev_aload rfl rfl rfl ?_
  refine Ev_aload rfl rfl rfl ?_
  refine Ev_putR rfl rfl (fun _ => ⟨rfl, rfl⟩) (Or.inr ⟨rfl, rfl, rfl⟩) ?_
  refine Ev_st (ρ' := r408) (σ' := s408) rfl rfl ?_
  refine Ev_aload rfl rfl rfl ?_
  refine Ev_aload rfl rfl rfl ?_
  refine Ev_putR rfl rfl (fun _ => ⟨rfl, rfl⟩) (Or.inr ⟨rfl, rfl, rfl⟩) ?_
  refine Ev_st (ρ' := r409) (σ' := s409) rfl rfl ?_
  exact Ev_return rfl rfl rfl ⟨rfl, rfl, rfl⟩
set_option maxRecDepth 20000 in
theorem k101 (d : Nat) : T l X (d + 1) 91 [.ref 316, .ref 1] 317 317 r411 s411 (Ru r412 s412) := by
  refine T_of rfl ?_
  refine Ev_aload rfl rfl rfl ?_
  refine Ev_obj rfl rfl ?_
  refine Ev_aload rfl rfl rfl ?_
  refine Ev_aload rfl rfl rfl ?_
  refine Ev_putR rfl rfl (fun _ => ⟨rfl, rfl⟩) (Or.inr ⟨rfl, rfl, rfl⟩) ?_
  refine Ev_st (ρ' := r412) (σ' := s412) rfl rfl ?_
  exact Ev_return rfl rfl rfl ⟨rfl, rfl, rfl⟩
set_option maxRecDepth 20000 in
theorem k102 (d : Nat) : T l X (d + 1) 32 [.ref 318, .ref 316, .ref 27] 319 319 r417 s417 (Ru r419 s419) := by
  refine T_of rfl ?_
  refine Ev_aload rfl rfl rfl ?_
  refine Ev_obj rfl rfl ?_
  refine Ev_aload rfl rfl rfl ?_
  refine Ev_aload rfl rfl rfl ?_
  refine Ev_putR rfl rfl (fun _ => ⟨rfl, rfl⟩) (Or.inr ⟨rfl, rfl, rfl⟩) ?_
  refine Ev_st (ρ' := r418) (σ' := s418) rfl rfl ?_
  refine Ev_aload rfl rfl rfl ?_
  refine Ev_aload rfl rfl rfl ?_
  refine Ev_putR rfl rfl (fun _ => ⟨rfl, rfl⟩) (Or.inl rfl) ?_
  refine Ev_st (ρ' := r419) (σ' := s419) rfl rfl ?_
  exact Ev_return rfl rfl rfl ⟨rfl, rfl, rfl⟩
set_option maxRecDepth 20000 in
theorem k103 (d : Nat) : T l X (d + 2) 78 [.ref 317, .ref 316, .ref 17] 318 319 r414 s414 (Ru r420 s420) := by
  refine T_of rfl ?_
  refine Ev_aload rfl rfl rfl ?_
  refine Ev_obj rfl rfl ?_
  refine Ev_aload rfl rfl rfl ?_
  refine Ev_aload rfl rfl rfl ?_
  refine Ev_putR rfl rfl (fun _ => ⟨rfl, rfl⟩) (Or.inr ⟨rfl, rfl, rfl⟩) ?_
  refine Ev_st (ρ' := r415) (σ' := s415) rfl rfl ?_
  refine Ev_aload rfl rfl rfl ?_
  refine Ev_aload rfl rfl rfl ?_
  refine Ev_putR rfl rfl (fun _ => ⟨rfl, rfl⟩) (Or.inl rfl) ?_
  refine Ev_st (ρ' := r416) (σ' := s416) rfl rfl ?_
  refine Ev_aload rfl rfl rfl ?_
  refine Ev_new rfl rfl ⟨by decide, by decide⟩ ?_
  refine Ev_st (ρ' := r417) (σ' := s417) rfl rfl ?_
  refine Ev_dup rfl (fun _ q => nomatch q) ?_
  refine Ev_aload rfl rfl rfl ?_
  refine Ev_aload rfl rfl rfl ?_
  refine Ev_getR (k' := 27) rfl rfl (by decide +kernel) ?_
  refine Ev_callI rfl rfl rfl rfl ⟨by decide, by decide, by decide⟩ (k102 d) ?_
  rintro v ρ' σ' ⟨rfl, rfl, rfl⟩
  refine Ev_putR rfl rfl (fun _ => ⟨rfl, rfl⟩) (Or.inr ⟨rfl, rfl, rfl⟩) ?_
  refine Ev_st (ρ' := r420) (σ' := s420) rfl rfl ?_
  exact Ev_return rfl rfl rfl ⟨rfl, rfl, rfl⟩
set_option maxRecDepth 20000 in
theorem k104 (d : Nat) : T l X (d + 1) 64 [.ref 319] 320 324 r422 s422 (Ru r430 s430) := by
  refine T_of rfl ?_
  refine Ev_aload rfl rfl rfl ?_
  refine Ev_obj rfl rfl ?_
  refine Ev_aload rfl rfl rfl ?_
  refine Ev_const rfl ?_
  refine Ev_newa rfl (by decide) rfl ⟨by decide, by decide⟩ ?_
  refine Ev_st (ρ' := r423) (σ' := s423) rfl rfl ?_
  refine Ev_putR rfl rfl (fun _ => ⟨rfl, rfl⟩) (Or.inr ⟨rfl, rfl, rfl⟩) ?_
  refine Ev_st (ρ' := r424) (σ' := s424) rfl rfl ?_
  refine Ev_aload rfl rfl rfl ?_
  refine Ev_const rfl ?_
  refine Ev_newa rfl (by decide) rfl ⟨by decide, by decide⟩ ?_
  refine Ev_st (ρ' := r425) (σ' := s425) rfl rfl ?_
  refine Ev_putR rfl rfl (fun _ => ⟨rfl, rfl⟩) (Or.inr ⟨rfl, rfl, rfl⟩) ?_
  refine Ev_st (ρ' := r426) (σ' := s426) rfl rfl ?_
  refine Ev_aload rfl rfl rfl ?_
  refine Ev_const rfl ?_
  refine Ev_newa rfl (by decide) rfl ⟨by decide, by decide⟩ ?_
  refine Ev_st (ρ' := r427) (σ' := s427) rfl rfl ?_
  refine Ev_putR rfl rfl (fun _ => ⟨rfl, rfl⟩) (Or.inr ⟨rfl, rfl, rfl⟩) ?_
  refine Ev_st (ρ' := r428) (σ' := s428) rfl rfl ?_
  refine Ev_aload rfl rfl rfl ?_
  refine Ev_const rfl ?_
  refine Ev_newa rfl (by decide) rfl ⟨by decide, by decide⟩ ?_
  refine Ev_st (ρ' := r429) (σ' := s429) rfl rfl ?_
  refine Ev_putR rfl rfl (fun _ => ⟨rfl, rfl⟩) (Or.inr ⟨rfl, rfl, rfl⟩) ?_
  refine Ev_st (ρ' := r430) (σ' := s430) rfl rfl ?_
  exact Ev_return rfl rfl rfl ⟨rfl, rfl, rfl⟩
set_option maxRecDepth 20000 in
theorem k105 (d : Nat) : T l X (d + 5) 102 [.ref 0] 1 326 r1 s1 (Ru r437 s437) := by
  refine T_of rfl ?_
  refine Ev_aload rfl rfl rfl ?_
  refine Ev_obj rfl rfl ?_
  refine Ev_aload rfl rfl rfl ?_
  refine Ev_const rfl ?_
  refine Ev_newa rfl (by decide) rfl ⟨by decide, by decide⟩ ?_
  refine Ev_st (ρ' := r2) (σ' := s2) rfl rfl ?_
  refine Ev_putR rfl rfl (fun _ => ⟨rfl, rfl⟩) (Or.inr ⟨rfl, rfl, rfl⟩) ?_
  refine Ev_st (ρ' := r3) (σ' := s3) rfl rfl ?_
  refine Ev_aload rfl rfl rfl ?_
  refine Ev_new rfl rfl ⟨by decide, by decide⟩ ?_
  refine Ev_st (ρ' := r4) (σ' := s4) rfl rfl ?_
  refine Ev_dup rfl (fun _ q => nomatch q) ?_
  refine Ev_callI rfl rfl rfl rfl ⟨by decide, by decide, by decide⟩ (k37 d) ?_
  rintro v ρ' σ' ⟨rfl, rfl, rfl⟩
  refine Ev_putR rfl rfl (fun _ => ⟨rfl, rfl⟩) (Or.inl rfl) ?_
  refine Ev_st (ρ' := r81) (σ' := s81) rfl rfl ?_
  refine Ev_aload rfl rfl rfl ?_
  refine Ev_new rfl rfl ⟨by decide, by decide⟩ ?_
  refine Ev_st (ρ' := r82) (σ' := s82) rfl rfl ?_
  refine Ev_dup rfl (fun _ q => nomatch q) ?_
  refine Ev_callI rfl rfl rfl rfl ⟨by decide, by decide, by decide⟩ (k75 d) ?_
  rintro v ρ' σ' ⟨rfl, rfl, rfl⟩
  refine Ev_putR rfl rfl (fun _ => ⟨rfl, rfl⟩) (Or.inl rfl) ?_
  refine Ev_st (ρ' := r159) (σ' := s159) rfl rfl ?_
  refine Ev_aload rfl rfl rfl ?_
  refine Ev_new rfl rfl ⟨by decide, by decide⟩ ?_
  refine Ev_st (ρ' := r160) (σ' := s160) rfl rfl ?_
  refine Ev_dup rfl (fun _ q => nomatch q) ?_
  refine Ev_callI rfl rfl rfl rfl ⟨by decide, by decide, by decide⟩ (k76 (d + 3)) ?_
  rintro v ρ' σ' ⟨rfl, rfl, rfl⟩
  refine Ev_putR rfl rfl (fun _ => ⟨rfl, rfl⟩) (Or.inr ⟨rfl, rfl, rfl⟩) ?_
  refine Ev_st (ρ' := r169) (σ' := s169) rfl rfl ?_
  refine Ev_aload rfl rfl rfl ?_
  refine Ev_new rfl rfl ⟨by decide, by decide⟩ ?_
  refine Ev_st (ρ' := r170) (σ' := s170) rfl rfl ?_
  refine Ev_dup rfl (fun _ q => nomatch q) ?_
  refine Ev_callI rfl rfl rfl rfl ⟨by decide, by decide, by decide⟩ (k97 (d + 2)) ?_
  rintro v ρ' σ' ⟨rfl, rfl, rfl⟩
  refine Ev_putR rfl rfl (fun _ => ⟨rfl, rfl⟩) (Or.inr ⟨rfl, rfl, rfl⟩) ?_
  refine Ev_st (ρ' := r373) (σ' := s373) rfl rfl ?_
  refine Ev_aload rfl rfl rfl ?_
  refine Ev_new rfl rfl ⟨by decide, by decide⟩ ?_
  refine Ev_st (ρ' := r374) (σ' := s374) rfl rfl ?_
  refine Ev_dup rfl (fun _ q => nomatch q) ?_
  refine Ev_aload rfl rfl rfl ?_
  refine Ev_getR (k' := 2) rfl rfl (by decide +kernel) ?_
  refine Ev_callI rfl rfl rfl rfl ⟨by decide, by decide, by decide⟩ (k98 (d + 3)) ?_
  rintro v ρ' σ' ⟨rfl, rfl, rfl⟩
  refine Ev_putR rfl rfl (fun _ => ⟨rfl, rfl⟩) (Or.inr ⟨rfl, rfl, rfl⟩) ?_
  refine Ev_st (ρ' := r378) (σ' := s378) rfl rfl ?_
  refine Ev_aload rfl rfl rfl ?_
  refine Ev_new rfl rfl ⟨by decide, by decide⟩ ?_
  refine Ev_st (ρ' := r379) (σ' := s379) rfl rfl ?_
  refine Ev_dup rfl (fun _ q => nomatch q) ?_
  refine Ev_aload rfl rfl rfl ?_
  refine Ev_getR (k' := 265) rfl rfl (by decide +kernel) ?_
  refine Ev_aload rfl rfl rfl ?_
  refine Ev_getR (k' := 32) rfl rfl (by decide +kernel) ?_
  refine Ev_callI rfl rfl rfl rfl ⟨by decide, by decide, by decide⟩ (k100 (d + 2)) ?_
  rintro v ρ' σ' ⟨rfl, rfl, rfl⟩
  refine Ev_putR rfl rfl (fun _ => ⟨rfl, rfl⟩) (Or.inr ⟨rfl, rfl, rfl⟩) ?_
  refine Ev_st (ρ' := r410) (σ' := s410) rfl rfl ?_
  refine Ev_aload rfl rfl rfl ?_
  refine Ev_new rfl rfl ⟨by decide, by decide⟩ ?_
  refine Ev_st (ρ' := r411) (σ' := s411) rfl rfl ?_
  refine Ev_dup rfl (fun _ q => nomatch q) ?_
  refine Ev_aload rfl rfl rfl ?_
  refine Ev_getR (k' := 1) rfl rfl (by decide +kernel) ?_
  refine Ev_callI rfl rfl rfl rfl ⟨by decide, by decide, by decide⟩ (k101 (d + 3)) ?_
  rintro v ρ' σ' ⟨rfl, rfl, rfl⟩
  refine Ev_putR rfl rfl (fun _ => ⟨rfl, rfl⟩) (Or.inr ⟨rfl, rfl, rfl⟩) ?_
  refine Ev_st (ρ' := r413) (σ' := s413) rfl rfl ?_
  refine Ev_aload rfl rfl rfl ?_
  refine Ev_new rfl rfl ⟨by decide, by decide⟩ ?_
  refine Ev_st (ρ' := r414) (σ' := s414) rfl rfl ?_
  refine Ev_dup rfl (fun _ q => nomatch q) ?_
  refine Ev_aload rfl rfl rfl ?_
  refine Ev_getR (k' := 316) rfl rfl (by decide +kernel) ?_
  refine Ev_aload rfl rfl rfl ?_
  refine Ev_getR (k' := 17) rfl rfl (by decide +kernel) ?_
  refine Ev_callI rfl rfl rfl rfl ⟨by decide, by decide, by decide⟩ (k103 (d + 2)) ?_
  rintro v ρ' σ' ⟨rfl, rfl, rfl⟩
  refine Ev_putR rfl rfl (fun _ => ⟨rfl, rfl⟩) (Or.inr ⟨rfl, rfl, rfl⟩) ?_
  refine Ev_st (ρ' := r421) (σ' := s421) rfl rfl ?_
  refine Ev_aload rfl rfl rfl ?_
  refine Ev_new rfl rfl ⟨by decide, by decide⟩ ?_
  refine Ev_st (ρ' := r422) (σ' := s422) rfl rfl ?_
  refine Ev_dup rfl (fun _ q => nomatch q) ?_
  refine Ev_callI rfl rfl rfl rfl ⟨by decide, by decide, by decide⟩ (k104 (d + 3)) ?_
  rintro v ρ' σ' ⟨rfl, rfl, rfl⟩
  refine Ev_putR rfl rfl (fun _ => ⟨rfl, rfl⟩) (Or.inr ⟨rfl, rfl, rfl⟩) ?_
  refine Ev_st (ρ' := r431) (σ' := s431) rfl rfl ?_
  refine Ev_aload rfl rfl rfl ?_
  refine Ev_const rfl ?_
  refine Ev_newa rfl (by decide) rfl ⟨by decide, by decide⟩ ?_
  refine Ev_st (ρ' := r432) (σ' := s432) rfl rfl ?_
  refine Ev_putR rfl rfl (fun _ => ⟨rfl, rfl⟩) (Or.inr ⟨rfl, rfl, rfl⟩) ?_
  refine Ev_st (ρ' := r433) (σ' := s433) rfl rfl ?_
  refine Ev_aload rfl rfl rfl ?_
  refine Ev_const rfl ?_
  refine Ev_newa rfl (by decide) rfl ⟨by decide, by decide⟩ ?_
  refine Ev_st (ρ' := r434) (σ' := s434) rfl rfl ?_
  refine Ev_putR rfl rfl (fun _ => ⟨rfl, rfl⟩) (Or.inr ⟨rfl, rfl, rfl⟩) ?_
  refine Ev_st (ρ' := r435) (σ' := s435) rfl rfl ?_
  refine Ev_aload rfl rfl rfl ?_
  refine Ev_const rfl ?_
  refine Ev_putI rfl rfl ⟨rfl, rfl⟩ rfl ?_
  refine Ev_st (ρ' := r436) (σ' := s436) rfl rfl ?_
  refine Ev_aload rfl rfl rfl ?_
  refine Ev_const rfl ?_
  refine Ev_putI rfl rfl ⟨rfl, rfl⟩ rfl ?_
  refine Ev_st (ρ' := r437) (σ' := s437) rfl rfl ?_
  exact Ev_return rfl rfl rfl ⟨rfl, rfl, rfl⟩
set_option maxRecDepth 20000 in
theorem k106 (d : Nat) : T l X (d + 1) 162 [.ref 326] 327 402 r438 s438 (Ru r817 s817) := by
  refine T_of rfl ?_
  refine Ev_aload rfl rfl rfl ?_
  refine Ev_obj rfl rfl ?_
  refine Ev_aload rfl rfl rfl ?_
  refine Ev_const rfl ?_
  refine Ev_newa rfl (by decide) rfl ⟨by decide, by decide⟩ ?_
  refine Ev_st (ρ' := r439) (σ' := s439) rfl rfl ?_
  refine Ev_putR rfl rfl (fun _ => ⟨rfl, rfl⟩) (Or.inr ⟨rfl, rfl, rfl⟩) ?_
  refine Ev_st (ρ' := r440) (σ' := s440) rfl rfl ?_
  refine Ev_aload rfl rfl rfl ?_
  refine Ev_const rfl ?_
  refine Ev_putI rfl rfl ⟨rfl, rfl⟩ rfl ?_
  refine Ev_st (ρ' := r441) (σ' := s441) rfl rfl ?_
  refine Ev_aload rfl rfl rfl ?_
  refine Ev_const rfl ?_
  refine Ev_newa rfl (by decide) rfl ⟨by decide, by decide⟩ ?_
  refine Ev_st (ρ' := r442) (σ' := s442) rfl rfl ?_
  refine Ev_putR rfl rfl (fun _ => ⟨rfl, rfl⟩) (Or.inr ⟨rfl, rfl, rfl⟩) ?_
  refine Ev_st (ρ' := r443) (σ' := s443) rfl rfl ?_
  refine Ev_aload rfl rfl rfl ?_
  refine Ev_const rfl ?_
  refine Ev_newa rfl (by decide) rfl ⟨by decide, by decide⟩ ?_
  refine Ev_st (ρ' := r444) (σ' := s444) rfl rfl ?_
  refine Ev_dup rfl (fun _ q => nomatch q) ?_
  refine Ev_const rfl ?_
  refine Ev_const rfl ?_
  refine Ev_cast rfl rfl (by unfold vp_in; decide) ?_
  refine Ev_st (ρ' := r445) (σ' := s445) rfl rfl ?_
  refine Ev_dup rfl (fun _ q => nomatch q) ?_
  refine Ev_const rfl ?_
  refine Ev_const rfl ?_
  refine Ev_cast rfl rfl (by unfold vp_in; decide) ?_
  refine Ev_st (ρ' := r446) (σ' := s446) rfl rfl ?_
  refine Ev_dup rfl (fun _ q => nomatch q) ?_
  refine Ev_const rfl ?_
  refine Ev_const rfl ?_
  refine Ev_cast rfl rfl (by unfold vp_in; decide) ?_
  refine Ev_st (ρ' := r447) (σ' := s447) rfl rfl ?_
  refine Ev_dup rfl (fun _ q => nomatch q) ?_
  refine Ev_const rfl ?_
  refine Ev_const rfl ?_
  refine Ev_cast rfl rfl (by unfold vp_in; decide) ?_
  refine Ev_st (ρ' := r448) (σ' := s448) rfl rfl ?_
  refine Ev_putR rfl rfl (fun _ => ⟨rfl, rfl⟩) (Or.inr ⟨rfl, rfl, rfl⟩) ?_
  refine Ev_st (ρ' := r449) (σ' := s449) rfl rfl ?_
  refine Ev_aload rfl rfl rfl ?_
  refine Ev_const rfl ?_
  refine Ev_newa rfl (by decide) rfl ⟨by decide, by decide⟩ ?_
  refine Ev_st (ρ' := r450) (σ' := s450) rfl rfl ?_
  refine Ev_dup rfl (fun _ q => nomatch q) ?_
  refine Ev_const rfl ?_
  refine Ev_const rfl ?_
  refine Ev_cast rfl rfl (by unfold vp_in; decide) ?_
  refine Ev_st (ρ' := r451) (σ' := s451) rfl rfl ?_
  refine Ev_dup rfl (fun _ q => nomatch q) ?_
  refine Ev_const rfl ?_
  refine Ev_const rfl ?_
  refine Ev_cast rfl rfl (by unfold vp_in; decide) ?_
  refine Ev_st (ρ' := r452) (σ' := s452) rfl rfl ?_
  refine Ev_dup rfl (fun _ q => nomatch q) ?_
  refine Ev_const rfl ?_
  refine Ev_const rfl ?_
  refine Ev_cast rfl rfl (by unfold vp_in; decide) ?_
  refine Ev_st (ρ' := r453) (σ' := s453) rfl rfl ?_
  refine Ev_dup rfl (fun _ q => nomatch q) ?_
  refine Ev_const rfl ?_
  refine Ev_const rfl ?_
  refine Ev_cast rfl rfl (by unfold vp_in; decide) ?_
  refine Ev_st (ρ' := r454) (σ' := s454) rfl rfl ?_
  refine Ev_dup rfl (fun _ q => nomatch q) ?_
  refine Ev_const rfl ?_
  refine Ev_const rfl ?_
  refine Ev_cast rfl rfl (by unfold vp_in; decide) ?_
  refine Ev_st (ρ' := r455) (σ' := s455) rfl rfl ?_
  refine Ev_putR rfl rfl (fun _ => ⟨rfl, rfl⟩) (Or.inr ⟨rfl, rfl, rfl⟩) ?_
  refine Ev_st (ρ' := r456) (σ' := s456) rfl rfl ?_
  refine Ev_aload rfl rfl rfl ?_
  refine Ev_const rfl ?_
  refine Ev_newa rfl (by decide) rfl ⟨by decide, by decide⟩ ?_
  refine Ev_st (ρ' := r457) (σ' := s457) rfl rfl ?_
  refine Ev_dup rfl (fun _ q => nomatch q) ?_
  refine Ev_const rfl ?_
  refine Ev_const rfl ?_
  refine Ev_cast rfl rfl (by unfold vp_in; decide) ?_
  refine Ev_st (ρ' := r458) (σ' := s458) rfl rfl ?_
  refine Ev_dup rfl (fun _ q => nomatch q) ?_
  refine Ev_const rfl ?_
  refine Ev_const rfl ?_
  refine Ev_cast rfl rfl (by unfold vp_in; decide) ?_
  refine Ev_st (ρ' := r459) (σ' := s459) rfl rfl ?_
  refine Ev_dup rfl (fun _ q => nomatch q) ?_
  refine Ev_const rfl ?_
  refine Ev_const rfl ?_
  refine Ev_cast rfl rfl (by unfold vp_in; decide) ?_
  refine Ev_st (ρ' := r460) (σ' := s460) rfl rfl ?_
  refine Ev_dup rfl (fun _ q => nomatch q) ?_
  refine Ev_const rfl ?_
  refine Ev_const rfl ?_
  refine Ev_cast rfl rfl (by unfold vp_in; decide) ?_
  refine Ev_st (ρ' := r461) (σ' := s461) rfl rfl ?_
  refine Ev_putR rfl rfl (fun _ => ⟨rfl, rfl⟩) (Or.inr ⟨rfl, rfl, rfl⟩) ?_
  refine Ev_st (ρ' := r462) (σ' := s462) rfl rfl ?_
  refine Ev_aload rfl rfl rfl ?_
  refine Ev_const rfl ?_
  refine Ev_newa rfl (by decide) rfl ⟨by decide, by decide⟩ ?_
  refine Ev_st (ρ' := r463) (σ' := s463) rfl rfl ?_
  refine Ev_dup rfl (fun _ q => nomatch q) ?_
  refine Ev_const rfl ?_
  refine Ev_const rfl ?_
  refine Ev_cast rfl rfl (by unfold vp_in; decide) ?_
  refine Ev_st (ρ' := r464) (σ' := s464) rfl rfl ?_
  refine Ev_dup rfl (fun _ q => nomatch q) ?_
  refine Ev_const rfl ?_
  refine Ev_const rfl ?_
  refine Ev_cast rfl rfl (by unfold vp_in; decide) ?_
  refine Ev_st (ρ' := r465) (σ' := s465) rfl rfl ?_
  refine Ev_dup rfl (fun _ q => nomatch q) ?_
  refine Ev_const rfl ?_
  refine Ev_const rfl ?_
  refine Ev_cast rfl rfl (by unfold vp_in; decide) ?_
  refine Ev_st (ρ' := r466) (σ' := s466) rfl rfl ?_
  refine Ev_putR rfl rfl (fun _ => ⟨rfl, rfl⟩) (Or.inr ⟨rfl, rfl, rfl⟩) ?_
  refine Ev_st (ρ' := r467) (σ' := s467) rfl rfl ?_
  refine Ev_aload rfl rfl rfl ?_
  refine Ev_const rfl ?_
  refine Ev_newa rfl (by decide) rfl ⟨by decide, by decide⟩ ?_
  refine Ev_st (ρ' := r468) (σ' := s468) rfl rfl ?_
  refine Ev_dup rfl (fun _ q => nomatch q) ?_
  refine Ev_const rfl ?_
  refine Ev_const rfl ?_
  refine Ev_cast rfl rfl (by unfold vp_in; decide) ?_
  refine Ev_st (ρ' := r469) (σ' := s469) rfl rfl ?_
  refine Ev_dup rfl (fun _ q => nomatch q) ?_
  refine Ev_const rfl ?_
  refine Ev_const rfl ?_
  refine Ev_cast rfl rfl (by unfold vp_in; decide) ?_
  refine Ev_st (ρ' := r470) (σ' := s470) rfl rfl ?_
  refine Ev_dup rfl (fun _ q => nomatch q) ?_
  refine Ev_const rfl ?_
  refine Ev_const rfl ?_
  refine Ev_cast rfl rfl (by unfold vp_in; decide) ?_
  refine Ev_st (ρ' := r471) (σ' := s471) rfl rfl ?_
  refine Ev_dup rfl (fun _ q => nomatch q) ?_
  refine Ev_const rfl ?_
  refine Ev_const rfl ?_
  refine Ev_cast rfl rfl (by unfold vp_in; decide) ?_
  refine Ev_st (ρ' := r472) (σ' := s472) rfl rfl ?_
  refine Ev_dup rfl (fun _ q => nomatch q) ?_
  refine Ev_const rfl ?_
  refine Ev_const rfl ?_
  refine Ev_cast rfl rfl (by unfold vp_in; decide) ?_
  refine Ev_st (ρ' := r473) (σ' := s473) rfl rfl ?_
  refine Ev_dup rfl (fun _ q => nomatch q) ?_
  refine Ev_const rfl ?_
  refine Ev_const rfl ?_
  refine Ev_cast rfl rfl (by unfold vp_in; decide) ?_
  refine Ev_st (ρ' := r474) (σ' := s474) rfl rfl ?_
  refine Ev_putR rfl rfl (fun _ => ⟨rfl, rfl⟩) (Or.inr ⟨rfl, rfl, rfl⟩) ?_
  refine Ev_st (ρ' := r475) (σ' := s475) rfl rfl ?_
  refine Ev_aload rfl rfl rfl ?_
  refine Ev_const rfl ?_
  refine Ev_newa rfl (by decide) rfl ⟨by decide, by decide⟩ ?_
  refine Ev_st (ρ' := r476) (σ' := s476) rfl rfl ?_
  refine Ev_dup rfl (fun _ q => nomatch q) ?_
  refine Ev_const rfl ?_
  refine Ev_const rfl ?_
  refine Ev_cast rfl rfl (by unfold vp_in; decide) ?_
  refine Ev_st (ρ' := r477) (σ' := s477) rfl rfl ?_
  refine Ev_dup rfl (fun _ q => nomatch q) ?_
  refine Ev_const rfl ?_
  refine Ev_const rfl ?_
  refine Ev_cast rfl rfl (by unfold vp_in; decide) ?_
  refine Ev_st (ρ' := r478) (σ' := s478) rfl rfl ?_
  refine Ev_dup rfl (fun _ q => nomatch q) ?_
  refine Ev_const rfl ?_
  refine Ev_const rfl ?_
  refine Ev_cast rfl rfl (by unfold vp_in; decide) ?_
  refine Ev_st (ρ' := r479) (σ' := s479) rfl rfl ?_
  refine Ev_dup rfl (fun _ q => nomatch q) ?_
  refine Ev_const rfl ?_
  refine Ev_const rfl ?_
  refine Ev_cast rfl rfl (by unfold vp_in; decide) ?_
  refine Ev_st (ρ' := r480) (σ' := s480) rfl rfl ?_
  refine Ev_putR rfl rfl (fun _ => ⟨rfl, rfl⟩) (Or.inr ⟨rfl, rfl, rfl⟩) ?_
  refine Ev_st (ρ' := r481) (σ' := s481) rfl rfl ?_
  refine Ev_aload rfl rfl rfl ?_
  refine Ev_const rfl ?_
  refine Ev_newa rfl (by decide) rfl ⟨by decide, by decide⟩ ?_
  refine Ev_st (ρ' := r482) (σ' := s482) rfl rfl ?_
  refine Ev_dup rfl (fun _ q => nomatch q) ?_
  refine Ev_const rfl ?_
  refine Ev_const rfl ?_
  refine Ev_cast rfl rfl (by unfold vp_in; decide) ?_
  refine Ev_st (ρ' := r483) (σ' := s483) rfl rfl ?_
  refine Ev_dup rfl (fun _ q => nomatch q) ?_
  refine Ev_const rfl ?_
  refine Ev_const rfl ?_
  refine Ev_cast rfl rfl (by unfold vp_in; decide) ?_
  refine Ev_st (ρ' := r484) (σ' := s484) rfl rfl ?_
  refine Ev_dup rfl (fun _ q => nomatch q) ?_
  refine Ev_const rfl ?_
  refine Ev_const rfl ?_
  refine Ev_cast rfl rfl (by unfold vp_in; decide) ?_
  refine Ev_st (ρ' := r485) (σ' := s485) rfl rfl ?_
  refine Ev_dup rfl (fun _ q => nomatch q) ?_
  refine Ev_const rfl ?_
  refine Ev_const rfl ?_
  refine Ev_cast rfl rfl (by unfold vp_in; decide) ?_
  refine Ev_st (ρ' := r486) (σ' := s486) rfl rfl ?_
  refine Ev_putR rfl rfl (fun _ => ⟨rfl, rfl⟩) (Or.inr ⟨rfl, rfl, rfl⟩) ?_
  refine Ev_st (ρ' := r487) (σ' := s487) rfl rfl ?_
  refine Ev_aload rfl rfl rfl ?_
  refine Ev_const rfl ?_
  refine Ev_newa rfl (by decide) rfl ⟨by decide, by decide⟩ ?_
  refine Ev_st (ρ' := r488) (σ' := s488) rfl rfl ?_
  refine Ev_dup rfl (fun _ q => nomatch q) ?_
  refine Ev_const rfl ?_
  refine Ev_const rfl ?_
  refine Ev_cast rfl rfl (by unfold vp_in; decide) ?_
  refine Ev_st (ρ' := r489) (σ' := s489) rfl rfl ?_
  refine Ev_dup rfl (fun _ q => nomatch q) ?_
  refine Ev_const rfl ?_
  refine Ev_const rfl ?_
  refine Ev_cast rfl rfl (by unfold vp_in; decide) ?_
  refine Ev_st (ρ' := r490) (σ' := s490) rfl rfl ?_
  refine Ev_dup rfl (fun _ q => nomatch q) ?_
  refine Ev_const rfl ?_
  refine Ev_const rfl ?_
  refine Ev_cast rfl rfl (by unfold vp_in; decide) ?_
  refine Ev_st (ρ' := r491) (σ' := s491) rfl rfl ?_
  refine Ev_dup rfl (fun _ q => nomatch q) ?_
  refine Ev_const rfl ?_
  refine Ev_const rfl ?_
  refine Ev_cast rfl rfl (by unfold vp_in; decide) ?_
  refine Ev_st (ρ' := r492) (σ' := s492) rfl rfl ?_
  refine Ev_putR rfl rfl (fun _ => ⟨rfl, rfl⟩) (Or.inr ⟨rfl, rfl, rfl⟩) ?_
  refine Ev_st (ρ' := r493) (σ' := s493) rfl rfl ?_
  refine Ev_aload rfl rfl rfl ?_
  refine Ev_const rfl ?_
  refine Ev_newa rfl (by decide) rfl ⟨by decide, by decide⟩ ?_
  refine Ev_st (ρ' := r494) (σ' := s494) rfl rfl ?_
  refine Ev_dup rfl (fun _ q => nomatch q) ?_
  refine Ev_const rfl ?_
  refine Ev_const rfl ?_
  refine Ev_cast rfl rfl (by unfold vp_in; decide) ?_
  refine Ev_st (ρ' := r495) (σ' := s495) rfl rfl ?_
  refine Ev_dup rfl (fun _ q => nomatch q) ?_
  refine Ev_const rfl ?_
  refine Ev_const rfl ?_
  refine Ev_cast rfl rfl (by unfold vp_in; decide) ?_
  refine Ev_st (ρ' := r496) (σ' := s496) rfl rfl ?_
  refine Ev_putR rfl rfl (fun _ => ⟨rfl, rfl⟩) (Or.inr ⟨rfl, rfl, rfl⟩) ?_
  refine Ev_st (ρ' := r497) (σ' := s497) rfl rfl ?_
  refine Ev_aload rfl rfl rfl ?_
  refine Ev_const rfl ?_
  refine Ev_newa rfl (by decide) rfl ⟨by decide, by decide⟩ ?_
  refine Ev_st (ρ' := r498) (σ' := s498) rfl rfl ?_
  refine Ev_dup rfl (fun _ q => nomatch q) ?_
  refine Ev_const rfl ?_
  refine Ev_const rfl ?_
  refine Ev_cast rfl rfl (by unfold vp_in; decide) ?_
  refine Ev_st (ρ' := r499) (σ' := s499) rfl rfl ?_
  refine Ev_dup rfl (fun _ q => nomatch q) ?_
  refine Ev_const rfl ?_
  refine Ev_const rfl ?_
  refine Ev_cast rfl rfl (by unfold vp_in; decide) ?_
  refine Ev_st (ρ' := r500) (σ' := s500) rfl rfl ?_
  refine Ev_dup rfl (fun _ q => nomatch q) ?_
  refine Ev_const rfl ?_
  refine Ev_const rfl ?_
  refine Ev_cast rfl rfl (by unfold vp_in; decide) ?_
  refine Ev_st (ρ' := r501) (σ' := s501) rfl rfl ?_
  refine Ev_dup rfl (fun _ q => nomatch q) ?_
  refine Ev_const rfl ?_
  refine Ev_const rfl ?_
  refine Ev_cast rfl rfl (by unfold vp_in; decide) ?_
  refine Ev_st (ρ' := r502) (σ' := s502) rfl rfl ?_
  refine Ev_putR rfl rfl (fun _ => ⟨rfl, rfl⟩) (Or.inr ⟨rfl, rfl, rfl⟩) ?_
  refine Ev_st (ρ' := r503) (σ' := s503) rfl rfl ?_
  refine Ev_aload rfl rfl rfl ?_
  refine Ev_const rfl ?_
  refine Ev_newa rfl (by decide) rfl ⟨by decide, by decide⟩ ?_
  refine Ev_st (ρ' := r504) (σ' := s504) rfl rfl ?_
  refine Ev_dup rfl (fun _ q => nomatch q) ?_
  refine Ev_const rfl ?_
  refine Ev_const rfl ?_
  refine Ev_cast rfl rfl (by unfold vp_in; decide) ?_
  refine Ev_st (ρ' := r505) (σ' := s505) rfl rfl ?_
  refine Ev_dup rfl (fun _ q => nomatch q) ?_
  refine Ev_const rfl ?_
  refine Ev_const rfl ?_
  refine Ev_cast rfl rfl (by unfold vp_in; decide) ?_
  refine Ev_st (ρ' := r506) (σ' := s506) rfl rfl ?_
  refine Ev_dup rfl (fun _ q => nomatch q) ?_
  refine Ev_const rfl ?_
  refine Ev_const rfl ?_
  refine Ev_cast rfl rfl (by unfold vp_in; decide) ?_
  refine Ev_st (ρ' := r507) (σ' := s507) rfl rfl ?_
  refine Ev_dup rfl (fun _ q => nomatch q) ?_
  refine Ev_const rfl ?_
  refine Ev_const rfl ?_
  refine Ev_cast rfl rfl (by unfold vp_in; decide) ?_
  refine Ev_st (ρ' := r508) (σ' := s508) rfl rfl ?_
  refine Ev_dup rfl (fun _ q => nomatch q) ?_
  refine Ev_const rfl ?_
  refine Ev_const rfl ?_
  refine Ev_cast rfl rfl (by unfold vp_in; decide) ?_
  refine Ev_st (ρ' := r509) (σ' := s509) rfl rfl ?_
  refine Ev_putR rfl rfl (fun _ => ⟨rfl, rfl⟩) (Or.inr ⟨rfl, rfl, rfl⟩) ?_
  refine Ev_st (ρ' := r510) (σ' := s510) rfl rfl ?_
  refine Ev_aload rfl rfl rfl ?_
  refine Ev_const rfl ?_
  refine Ev_newa rfl (by decide) rfl ⟨by decide, by decide⟩ ?_
  refine Ev_st (ρ' := r511) (σ' := s511) rfl rfl ?_
  refine Ev_dup rfl (fun _ q => nomatch q) ?_
  refine Ev_const rfl ?_
  refine Ev_const rfl ?_
  refine Ev_cast rfl rfl (by unfold vp_in; decide) ?_
  refine Ev_st (ρ' := r512) (σ' := s512) rfl rfl ?_
  refine Ev_dup rfl (fun _ q => nomatch q) ?_
  refine Ev_const rfl ?_
  refine Ev_const rfl ?_
  refine Ev_cast rfl rfl (by unfold vp_in; decide) ?_
  refine Ev_st (ρ' := r513) (σ' := s513) rfl rfl ?_
  refine Ev_dup rfl (fun _ q => nomatch q) ?_
  refine Ev_const rfl ?_
  refine Ev_const rfl ?_
  refine Ev_cast rfl rfl (by unfold vp_in; decide) ?_
  refine Ev_st (ρ' := r514) (σ' := s514) rfl rfl ?_
  refine Ev_dup rfl (fun _ q => nomatch q) ?_
  refine Ev_const rfl ?_
  refine Ev_const rfl ?_
  refine Ev_cast rfl rfl (by unfold vp_in; decide) ?_
  refine Ev_st (ρ' := r515) (σ' := s515) rfl rfl ?_
  refine Ev_dup rfl (fun _ q => nomatch q) ?_
  refine Ev_const rfl ?_
  refine Ev_const rfl ?_
  refine Ev_cast rfl rfl (by unfold vp_in; decide) ?_
  refine Ev_st (ρ' := r516) (σ' := s516) rfl rfl ?_
  refine Ev_putR rfl rfl (fun _ => ⟨rfl, rfl⟩) (Or.inr ⟨rfl, rfl, rfl⟩) ?_
  refine Ev_st (ρ' := r517) (σ' := s517) rfl rfl ?_
  refine Ev_aload rfl rfl rfl ?_
  refine Ev_const rfl ?_
  refine Ev_newa rfl (by decide) rfl ⟨by decide, by decide⟩ ?_
  refine Ev_st (ρ' := r518) (σ' := s518) rfl rfl ?_
  refine Ev_dup rfl (fun _ q => nomatch q) ?_
  refine Ev_const rfl ?_
  refine Ev_const rfl ?_
  refine Ev_cast rfl rfl (by unfold vp_in; decide) ?_
  refine Ev_st (ρ' := r519) (σ' := s519) rfl rfl ?_
  refine Ev_dup rfl (fun _ q => nomatch q) ?_
  refine Ev_const rfl ?_
  refine Ev_const rfl ?_
  refine Ev_cast rfl rfl (by unfold vp_in; decide) ?_
  refine Ev_st (ρ' := r520) (σ' := s520) rfl rfl ?_
  refine Ev_dup rfl (fun _ q => nomatch q) ?_
  refine Ev_const rfl ?_
  refine Ev_const rfl ?_
  refine Ev_cast rfl rfl (by unfold vp_in; decide) ?_
  refine Ev_st (ρ' := r521) (σ' := s521) rfl rfl ?_
  refine Ev_dup rfl (fun _ q => nomatch q) ?_
  refine Ev_const rfl ?_
  refine Ev_const rfl ?_
  refine Ev_cast rfl rfl (by unfold vp_in; decide) ?_
  refine Ev_st (ρ' := r522) (σ' := s522) rfl rfl ?_
  refine Ev_dup rfl (fun _ q => nomatch q) ?_
  refine Ev_const rfl ?_
  refine Ev_const rfl ?_
  refine Ev_cast rfl rfl (by unfold vp_in; decide) ?_
  refine Ev_st (ρ' := r523) (σ' := s523) rfl rfl ?_
  refine Ev_putR rfl rfl (fun _ => ⟨rfl, rfl⟩) (Or.inr ⟨rfl, rfl, rfl⟩) ?_
  refine Ev_st (ρ' := r524) (σ' := s524) rfl rfl ?_
  refine Ev_aload rfl rfl rfl ?_
  refine Ev_const rfl ?_
  refine Ev_newa rfl (by decide) rfl ⟨by decide, by decide⟩ ?_
  refine Ev_st (ρ' := r525) (σ' := s525) rfl rfl ?_
  refine Ev_dup rfl (fun _ q => nomatch q) ?_
  refine Ev_const rfl ?_
  refine Ev_const rfl ?_
  refine Ev_cast rfl rfl (by unfold vp_in; decide) ?_
  refine Ev_st (ρ' := r526) (σ' := s526) rfl rfl ?_
  refine Ev_dup rfl (fun _ q => nomatch q) ?_
  refine Ev_const rfl ?_
  refine Ev_const rfl ?_
  refine Ev_cast rfl rfl (by unfold vp_in; decide) ?_
  refine Ev_st (ρ' := r527) (σ' := s527) rfl rfl ?_
  refine Ev_dup rfl (fun _ q => nomatch q) ?_
  refine Ev_const rfl ?_
  refine Ev_const rfl ?_
  refine Ev_cast rfl rfl (by unfold vp_in; decide) ?_
  refine Ev_st (ρ' := r528) (σ' := s528) rfl rfl ?_
  refine Ev_dup rfl (fun _ q => nomatch q) ?_
  refine Ev_const rfl ?_
  refine Ev_const rfl ?_
  refine Ev_cast rfl rfl (by unfold vp_in; decide) ?_
  refine Ev_st (ρ' := r529) (σ' := s529) rfl rfl ?_
  refine Ev_dup rfl (fun _ q => nomatch q) ?_
  refine Ev_const rfl ?_
  refine Ev_const rfl ?_
  refine Ev_cast rfl rfl (by unfold vp_in; decide) ?_
  refine Ev_st (ρ' := r530) (σ' := s530) rfl rfl ?_
  refine Ev_dup rfl (fun _ q => nomatch q) ?_
  refine Ev_const rfl ?_
  refine Ev_const rfl ?_
  refine Ev_cast rfl rfl (by unfold vp_in; decide) ?_
  refine Ev_st (ρ' := r531) (σ' := s531) rfl rfl ?_
  refine Ev_putR rfl rfl (fun _ => ⟨rfl, rfl⟩) (Or.inr ⟨rfl, rfl, rfl⟩) ?_
  refine Ev_st (ρ' := r532) (σ' := s532) rfl rfl ?_
  refine Ev_aload rfl rfl rfl ?_
  refine Ev_const rfl ?_
  refine Ev_newa rfl (by decide) rfl ⟨by decide, by decide⟩ ?_
  refine Ev_st (ρ' := r533) (σ' := s533) rfl rfl ?_
  refine Ev_dup rfl (fun _ q => nomatch q) ?_
  refine Ev_const rfl ?_
  refine Ev_const rfl ?_
  refine Ev_cast rfl rfl (by unfold vp_in; decide) ?_
  refine Ev_st (ρ' := r534) (σ' := s534) rfl rfl ?_
  refine Ev_dup rfl (fun _ q => nomatch q) ?_
  refine Ev_const rfl ?_
  refine Ev_const rfl ?_
  refine Ev_cast rfl rfl (by unfold vp_in; decide) ?_
  refine Ev_st (ρ' := r535) (σ' := s535) rfl rfl ?_
  refine Ev_dup rfl (fun _ q => nomatch q) ?_
  refine Ev_const rfl ?_
  refine Ev_const rfl ?_
  refine Ev_cast rfl rfl (by unfold vp_in; decide) ?_
  refine Ev_st (ρ' := r536) (σ' := s536) rfl rfl ?_
  refine Ev_dup rfl (fun _ q => nomatch q) ?_
  refine Ev_const rfl ?_
  refine Ev_const rfl ?_
  refine Ev_cast rfl rfl (by unfold vp_in; decide) ?_
  refine Ev_st (ρ' := r537) (σ' := s537) rfl rfl ?_
  refine Ev_putR rfl rfl (fun _ => ⟨rfl, rfl⟩) (Or.inr ⟨rfl, rfl, rfl⟩) ?_
  refine Ev_st (ρ' := r538) (σ' := s538) rfl rfl ?_
  refine Ev_aload rfl rfl rfl ?_
  refine Ev_const rfl ?_
  refine Ev_newa rfl (by decide) rfl ⟨by decide, by decide⟩ ?_
  refine Ev_st (ρ' := r539) (σ' := s539) rfl rfl ?_
  refine Ev_dup rfl (fun _ q => nomatch q) ?_
  refine Ev_const rfl ?_
  refine Ev_const rfl ?_
  refine Ev_cast rfl rfl (by unfold vp_in; decide) ?_
  refine Ev_st (ρ' := r540) (σ' := s540) rfl rfl ?_
  refine Ev_dup rfl (fun _ q => nomatch q) ?_
  refine Ev_const rfl ?_
  refine Ev_const rfl ?_
  refine Ev_cast rfl rfl (by unfold vp_in; decide) ?_
  refine Ev_st (ρ' := r541) (σ' := s541) rfl rfl ?_
  refine Ev_dup rfl (fun _ q => nomatch q) ?_
  refine Ev_const rfl ?_
  refine Ev_const rfl ?_
  refine Ev_cast rfl rfl (by unfold vp_in; decide) ?_
  refine Ev_st (ρ' := r542) (σ' := s542) rfl rfl ?_
  refine Ev_dup rfl (fun _ q => nomatch q) ?_
  refine Ev_const rfl ?_
  refine Ev_const rfl ?_
  refine Ev_cast rfl rfl (by unfold vp_in; decide) ?_
  refine Ev_st (ρ' := r543) (σ' := s543) rfl rfl ?_
  refine Ev_dup rfl (fun _ q => nomatch q) ?_
  refine Ev_const rfl ?_
  refine Ev_const rfl ?_
  refine Ev_cast rfl rfl (by unfold vp_in; decide) ?_
  refine Ev_st (ρ' := r544) (σ' := s544) rfl rfl ?_
  refine Ev_putR rfl rfl (fun _ => ⟨rfl, rfl⟩) (Or.inr ⟨rfl, rfl, rfl⟩) ?_
  refine Ev_st (ρ' := r545) (σ' := s545) rfl rfl ?_
  refine Ev_aload rfl rfl rfl ?_
  refine Ev_const rfl ?_
  refine Ev_newa rfl (by decide) rfl ⟨by decide, by decide⟩ ?_
  refine Ev_st (ρ' := r546) (σ' := s546) rfl rfl ?_
  refine Ev_dup rfl (fun _ q => nomatch q) ?_
  refine Ev_const rfl ?_
  refine Ev_const rfl ?_
  refine Ev_cast rfl rfl (by unfold vp_in; decide) ?_
  refine Ev_st (ρ' := r547) (σ' := s547) rfl rfl ?_
  refine Ev_dup rfl (fun _ q => nomatch q) ?_
  refine Ev_const rfl ?_
  refine Ev_const rfl ?_
  refine Ev_cast rfl rfl (by unfold vp_in; decide) ?_
  refine Ev_st (ρ' := r548) (σ' := s548) rfl rfl ?_
  refine Ev_dup rfl (fun _ q => nomatch q) ?_
  refine Ev_const rfl ?_
  refine Ev_const rfl ?_
  refine Ev_cast rfl rfl (by unfold vp_in; decide) ?_
  refine Ev_st (ρ' := r549) (σ' := s549) rfl rfl ?_
  refine Ev_dup rfl (fun _ q => nomatch q) ?_
  refine Ev_const rfl ?_
  refine Ev_const rfl ?_
  refine Ev_cast rfl rfl (by unfold vp_in; decide) ?_
  refine Ev_st (ρ' := r550) (σ' := s550) rfl rfl ?_
  refine Ev_dup rfl (fun _ q => nomatch q) ?_
  refine Ev_const rfl ?_
  refine Ev_const rfl ?_
  refine Ev_cast rfl rfl (by unfold vp_in; decide) ?_
  refine Ev_st (ρ' := r551) (σ' := s551) rfl rfl ?_
  refine Ev_dup rfl (fun _ q => nomatch q) ?_
  refine Ev_const rfl ?_
  refine Ev_const rfl ?_
  refine Ev_cast rfl rfl (by unfold vp_in; decide) ?_
  refine Ev_st (ρ' := r552) (σ' := s552) rfl rfl ?_
  refine Ev_dup rfl (fun _ q => nomatch q) ?_
  refine Ev_const rfl ?_
  refine Ev_const rfl ?_
  refine Ev_cast rfl rfl (by unfold vp_in; decide) ?_
  refine Ev_st (ρ' := r553) (σ' := s553) rfl rfl ?_
  refine Ev_dup rfl (fun _ q => nomatch q) ?_
  refine Ev_const rfl ?_
  refine Ev_const rfl ?_
  refine Ev_cast rfl rfl (by unfold vp_in; decide) ?_
  refine Ev_st (ρ' := r554) (σ' := s554) rfl rfl ?_
  refine Ev_putR rfl rfl (fun _ => ⟨rfl, rfl⟩) (Or.inr ⟨rfl, rfl, rfl⟩) ?_
  refine Ev_st (ρ' := r555) (σ' := s555) rfl rfl ?_
  refine Ev_aload rfl rfl rfl ?_
  refine Ev_const rfl ?_
  refine Ev_newa rfl (by decide) rfl ⟨by decide, by decide⟩ ?_
  refine Ev_st (ρ' := r556) (σ' := s556) rfl rfl ?_
  refine Ev_dup rfl (fun _ q => nomatch q) ?_
  refine Ev_const rfl ?_
  refine Ev_const rfl ?_
  refine Ev_cast rfl rfl (by unfold vp_in; decide) ?_
  refine Ev_st (ρ' := r557) (σ' := s557) rfl rfl ?_
  refine Ev_dup rfl (fun _ q => nomatch q) ?_
  refine Ev_const rfl ?_
  refine Ev_const rfl ?_
  refine Ev_cast rfl rfl (by unfold vp_in; decide) ?_
  refine Ev_st (ρ' := r558) (σ' := s558) rfl rfl ?_
  refine Ev_dup rfl (fun _ q => nomatch q) ?_
  refine Ev_const rfl ?_
  refine Ev_const rfl ?_
  refine Ev_cast rfl rfl (by unfold vp_in; decide) ?_
  refine Ev_st (ρ' := r559) (σ' := s559) rfl rfl ?_
  refine Ev_dup rfl (fun _ q => nomatch q) ?_
  refine Ev_const rfl ?_
  refine Ev_const rfl ?_
  refine Ev_cast rfl rfl (by unfold vp_in; decide) ?_
  refine Ev_st (ρ' := r560) (σ' := s560) rfl rfl ?_
  refine Ev_dup rfl (fun _ q => nomatch q) ?_
  refine Ev_const rfl ?_
  refine Ev_const rfl ?_
  refine Ev_cast rfl rfl (by unfold vp_in; decide) ?_
  refine Ev_st (ρ' := r561) (σ' := s561) rfl rfl ?_
  refine Ev_dup rfl (fun _ q => nomatch q) ?_
  refine Ev_const rfl ?_
  refine Ev_const rfl ?_
  refine Ev_cast rfl rfl (by unfold vp_in; decide) ?_
  refine Ev_st (ρ' := r562) (σ' := s562) rfl rfl ?_
  refine Ev_putR rfl rfl (fun _ => ⟨rfl, rfl⟩) (Or.inr ⟨rfl, rfl, rfl⟩) ?_
  refine Ev_st (ρ' := r563) (σ' := s563) rfl rfl ?_
  refine Ev_aload rfl rfl rfl ?_
  refine Ev_const rfl ?_
  refine Ev_newa rfl (by decide) rfl ⟨by decide, by decide⟩ ?_
  refine Ev_st (ρ' := r564) (σ' := s564) rfl rfl ?_
  refine Ev_dup rfl (fun _ q => nomatch q) ?_
  refine Ev_const rfl ?_
  refine Ev_const rfl ?_
  refine Ev_cast rfl rfl (by unfold vp_in; decide) ?_
  refine Ev_st (ρ' := r565) (σ' := s565) rfl rfl ?_
  refine Ev_dup rfl (fun _ q => nomatch q) ?_
  refine Ev_const rfl ?_
  refine Ev_const rfl ?_
  refine Ev_cast rfl rfl (by unfold vp_in; decide) ?_
  refine Ev_st (ρ' := r566) (σ' := s566) rfl rfl ?_
  refine Ev_dup rfl (fun _ q => nomatch q) ?_
  refine Ev_const rfl ?_
  refine Ev_const rfl ?_
  refine Ev_cast rfl rfl (by unfold vp_in; decide) ?_
  refine Ev_st (ρ' := r567) (σ' := s567) rfl rfl ?_
  refine Ev_dup rfl (fun _ q => nomatch q) ?_
  refine Ev_const rfl ?_
  refine Ev_const rfl ?_
  refine Ev_cast rfl rfl (by unfold vp_in; decide) ?_
  refine Ev_st (ρ' := r568) (σ' := s568) rfl rfl ?_
  refine Ev_dup rfl (fun _ q => nomatch q) ?_
  refine Ev_const rfl ?_
  refine Ev_const rfl ?_
  refine Ev_cast rfl rfl (by unfold vp_in; decide) ?_
  refine Ev_st (ρ' := r569) (σ' := s569) rfl rfl ?_
  refine Ev_dup rfl (fun _ q => nomatch q) ?_
  refine Ev_const rfl ?_
  refine Ev_const rfl ?_
  refine Ev_cast rfl rfl (by unfold vp_in; decide) ?_
  refine Ev_st (ρ' := r570) (σ' := s570) rfl rfl ?_
  refine Ev_putR rfl rfl (fun _ => ⟨rfl, rfl⟩) (Or.inr ⟨rfl, rfl, rfl⟩) ?_
  refine Ev_st (ρ' := r571) (σ' := s571) rfl rfl ?_
  refine Ev_aload rfl rfl rfl ?_
  refine Ev_const rfl ?_
  refine Ev_newa rfl (by decide) rfl ⟨by decide, by decide⟩ ?_
  refine Ev_st (ρ' := r572) (σ' := s572) rfl rfl ?_
  refine Ev_dup rfl (fun _ q => nomatch q) ?_
  refine Ev_const rfl ?_
  refine Ev_const rfl ?_
  refine Ev_cast rfl rfl (by unfold vp_in; decide) ?_
  refine Ev_st (ρ' := r573) (σ' := s573) rfl rfl ?_
  refine Ev_dup rfl (fun _ q => nomatch q) ?_
  refine Ev_const rfl ?_
  refine Ev_const rfl ?_
  refine Ev_cast rfl rfl (by unfold vp_in; decide) ?_
  refine Ev_st (ρ' := r574) (σ' := s574) rfl rfl ?_
  refine Ev_dup rfl (fun _ q => nomatch q) ?_
  refine Ev_const rfl ?_
  refine Ev_const rfl ?_
  refine Ev_cast rfl rfl (by unfold vp_in; decide) ?_
  refine Ev_st (ρ' := r575) (σ' := s575) rfl rfl ?_
  refine Ev_dup rfl (fun _ q => nomatch q) ?_
  refine Ev_const rfl ?_
  refine Ev_const rfl ?_
  refine Ev_cast rfl rfl (by unfold vp_in; decide) ?_
  refine Ev_st (ρ' := r576) (σ' := s576) rfl rfl ?_
  refine Ev_dup rfl (fun _ q => nomatch q) ?_
  refine Ev_const rfl ?_
  refine Ev_const rfl ?_
  refine Ev_cast rfl rfl (by unfold vp_in; decide) ?_
  refine Ev_st (ρ' := r577) (σ' := s577) rfl rfl ?_
  refine Ev_putR rfl rfl (fun _ => ⟨rfl, rfl⟩) (Or.inr ⟨rfl, rfl, rfl⟩) ?_
  refine Ev_st (ρ' := r578) (σ' := s578) rfl rfl ?_
  refine Ev_aload rfl rfl rfl ?_
  refine Ev_const rfl ?_
  refine Ev_newa rfl (by decide) rfl ⟨by decide, by decide⟩ ?_
  refine Ev_st (ρ' := r579) (σ' := s579) rfl rfl ?_
  refine Ev_dup rfl (fun _ q => nomatch q) ?_
  refine Ev_const rfl ?_
  refine Ev_const rfl ?_
  refine Ev_cast rfl rfl (by unfold vp_in; decide) ?_
  refine Ev_st (ρ' := r580) (σ' := s580) rfl rfl ?_
  refine Ev_dup rfl (fun _ q => nomatch q) ?_
  refine Ev_const rfl ?_
  refine Ev_const rfl ?_
  refine Ev_cast rfl rfl (by unfold vp_in; decide) ?_
  refine Ev_st (ρ' := r581) (σ' := s581) rfl rfl ?_
  refine Ev_dup rfl (fun _ q => nomatch q) ?_
  refine Ev_const rfl ?_
  refine Ev_const rfl ?_
  refine Ev_cast rfl rfl (by unfold vp_in; decide) ?_
  refine Ev_st (ρ' := r582) (σ' := s582) rfl rfl ?_
  refine Ev_dup rfl (fun _ q => nomatch q) ?_
  refine Ev_const rfl ?_
  refine Ev_const rfl ?_
  refine Ev_cast rfl rfl (by unfold vp_in; decide) ?_
  refine Ev_st (ρ' := r583) (σ' := s583) rfl rfl ?_
  refine Ev_dup rfl (fun _ q => nomatch q) ?_
  refine Ev_const rfl ?_
  refine Ev_const rfl ?_
  refine Ev_cast rfl rfl (by unfold vp_in; decide) ?_
  refine Ev_st (ρ' := r584) (σ' := s584) rfl rfl ?_
  refine Ev_putR rfl rfl (fun _ => ⟨rfl, rfl⟩) (Or.inr ⟨rfl, rfl, rfl⟩) ?_
  refine Ev_st (ρ' := r585) (σ' := s585) rfl rfl ?_
  refine Ev_aload rfl rfl rfl ?_
  refine Ev_const rfl ?_
  refine Ev_newa rfl (by decide) rfl ⟨by decide, by decide⟩ ?_
  refine Ev_st (ρ' := r586) (σ' := s586) rfl rfl ?_
  refine Ev_dup rfl (fun _ q => nomatch q) ?_
  refine Ev_const rfl ?_
  refine Ev_const rfl ?_
  refine Ev_cast rfl rfl (by unfold vp_in; decide) ?_
  refine Ev_st (ρ' := r587) (σ' := s587) rfl rfl ?_
  refine Ev_dup rfl (fun _ q => nomatch q) ?_
  refine Ev_const rfl ?_
  refine Ev_const rfl ?_
  refine Ev_cast rfl rfl (by unfold vp_in; decide) ?_
  refine Ev_st (ρ' := r588) (σ' := s588) rfl rfl ?_
  refine Ev_putR rfl rfl (fun _ => ⟨rfl, rfl⟩) (Or.inr ⟨rfl, rfl, rfl⟩) ?_
  refine Ev_st (ρ' := r589) (σ' := s589) rfl rfl ?_
  refine Ev_aload rfl rfl rfl ?_
  refine Ev_const rfl ?_
  refine Ev_newa rfl (by decide) rfl ⟨by decide, by decide⟩ ?_
  refine Ev_st (ρ' := r590) (σ' := s590) rfl rfl ?_
  refine Ev_dup rfl (fun _ q => nomatch q) ?_
  refine Ev_const rfl ?_
  refine Ev_const rfl ?_
  refine Ev_cast rfl rfl (by unfold vp_in; decide) ?_
  refine Ev_st (ρ' := r591) (σ' := s591) rfl rfl ?_
  refine Ev_dup rfl (fun _ q => nomatch q) ?_
  refine Ev_const rfl ?_
  refine Ev_const rfl ?_
  refine Ev_cast rfl rfl (by unfold vp_in; decide) ?_
  refine Ev_st (ρ' := r592) (σ' := s592) rfl rfl ?_
  refine Ev_dup rfl (fun _ q => nomatch q) ?_
  refine Ev_const rfl ?_
  refine Ev_const rfl ?_
  refine Ev_cast rfl rfl (by unfold vp_in; decide) ?_
  refine Ev_st (ρ' := r593) (σ' := s593) rfl rfl ?_
  refine Ev_putR rfl rfl (fun _ => ⟨rfl, rfl⟩) (Or.inr ⟨rfl, rfl, rfl⟩) ?_
  refine Ev_st (ρ' := r594) (σ' := s594) rfl rfl ?_
  refine Ev_aload rfl rfl rfl ?_
  refine Ev_const rfl ?_
  refine Ev_newa rfl (by decide) rfl ⟨by decide, by decide⟩ ?_
  refine Ev_st (ρ' := r595) (σ' := s595) rfl rfl ?_
  refine Ev_dup rfl (fun _ q => nomatch q) ?_
  refine Ev_const rfl ?_
  refine Ev_const rfl ?_
  refine Ev_cast rfl rfl (by unfold vp_in; decide) ?_
  refine Ev_st (ρ' := r596) (σ' := s596) rfl rfl ?_
  refine Ev_dup rfl (fun _ q => nomatch q) ?_
  refine Ev_const rfl ?_
  refine Ev_const rfl ?_
  refine Ev_cast rfl rfl (by unfold vp_in; decide) ?_
  refine Ev_st (ρ' := r597) (σ' := s597) rfl rfl ?_
  refine Ev_dup rfl (fun _ q => nomatch q) ?_
  refine Ev_const rfl ?_
  refine Ev_const rfl ?_
  refine Ev_cast rfl rfl (by unfold vp_in; decide) ?_
  refine Ev_st (ρ' := r598) (σ' := s598) rfl rfl ?_
  refine Ev_putR rfl rfl (fun _ => ⟨rfl, rfl⟩) (Or.inr ⟨rfl, rfl, rfl⟩) ?_
  refine Ev_st (ρ' := r599) (σ' := s599) rfl rfl ?_
  refine Ev_aload rfl rfl rfl ?_
  refine Ev_const rfl ?_
  refine Ev_newa rfl (by decide) rfl ⟨by decide, by decide⟩ ?_
  refine Ev_st (ρ' := r600) (σ' := s600) rfl rfl ?_
  refine Ev_dup rfl (fun _ q => nomatch q) ?_
  refine Ev_const rfl ?_
  refine Ev_const rfl ?_
  refine Ev_cast rfl rfl (by unfold vp_in; decide) ?_
  refine Ev_st (ρ' := r601) (σ' := s601) rfl rfl ?_
  refine Ev_dup rfl (fun _ q => nomatch q) ?_
  refine Ev_const rfl ?_
  refine Ev_const rfl ?_
  refine Ev_cast rfl rfl (by unfold vp_in; decide) ?_
  refine Ev_st (ρ' := r602) (σ' := s602) rfl rfl ?_
  refine Ev_dup rfl (fun _ q => nomatch q) ?_
  refine Ev_const rfl ?_
  refine Ev_const rfl ?_
  refine Ev_cast rfl rfl (by unfold vp_in; decide) ?_
  refine Ev_st (ρ' := r603) (σ' := s603) rfl rfl ?_
  refine Ev_putR rfl rfl (fun _ => ⟨rfl, rfl⟩) (Or.inr ⟨rfl, rfl, rfl⟩) ?_
  refine Ev_st (ρ' := r604) (σ' := s604) rfl rfl ?_
  refine Ev_aload rfl rfl rfl ?_
  refine Ev_const rfl ?_
  refine Ev_newa rfl (by decide) rfl ⟨by decide, by decide⟩ ?_
  refine Ev_st (ρ' := r605) (σ' := s605) rfl rfl ?_
  refine Ev_dup rfl (fun _ q => nomatch q) ?_
  refine Ev_const rfl ?_
  refine Ev_const rfl ?_
  refine Ev_cast rfl rfl (by unfold vp_in; decide) ?_
  refine Ev_st (ρ' := r606) (σ' := s606) rfl rfl ?_
  refine Ev_dup rfl (fun _ q => nomatch q) ?_
  refine Ev_const rfl ?_
  refine Ev_const rfl ?_
  refine Ev_cast rfl rfl (by unfold vp_in; decide) ?_
  refine Ev_st (ρ' := r607) (σ' := s607) rfl rfl ?_
  refine Ev_dup rfl (fun _ q => nomatch q) ?_
  refine Ev_const rfl ?_
  refine Ev_const rfl ?_
  refine Ev_cast rfl rfl (by unfold vp_in; decide) ?_
  refine Ev_st (ρ' := r608) (σ' := s608) rfl rfl ?_
  refine Ev_putR rfl rfl (fun _ => ⟨rfl, rfl⟩) (Or.inr ⟨rfl, rfl, rfl⟩) ?_
  refine Ev_st (ρ' := r609) (σ' := s609) rfl rfl ?_
  refine Ev_aload rfl rfl rfl ?_
  refine Ev_const rfl ?_
  refine Ev_newa rfl (by decide) rfl ⟨by decide, by decide⟩ ?_
  refine Ev_st (ρ' := r610) (σ' := s610) rfl rfl ?_
  refine Ev_dup rfl (fun _ q => nomatch q) ?_
  refine Ev_const rfl ?_
  refine Ev_const rfl ?_
  refine Ev_cast rfl rfl (by unfold vp_in; decide) ?_
  refine Ev_st (ρ' := r611) (σ' := s611) rfl rfl ?_
  refine Ev_dup rfl (fun _ q => nomatch q) ?_
  refine Ev_const rfl ?_
  refine Ev_const rfl ?_
  refine Ev_cast rfl rfl (by unfold vp_in; decide) ?_
  refine Ev_st (ρ' := r612) (σ' := s612) rfl rfl ?_
  refine Ev_dup rfl (fun _ q => nomatch q) ?_
  refine Ev_const rfl ?_
  refine Ev_const rfl ?_
  refine Ev_cast rfl rfl (by unfold vp_in; decide) ?_
  refine Ev_st (ρ' := r613) (σ' := s613) rfl rfl ?_
  refine Ev_putR rfl rfl (fun _ => ⟨rfl, rfl⟩) (Or.inr ⟨rfl, rfl, rfl⟩) ?_
  refine Ev_st (ρ' := r614) (σ' := s614) rfl rfl ?_
  refine Ev_aload rfl rfl rfl ?_
  refine Ev_const rfl ?_
  refine Ev_newa rfl (by decide) rfl ⟨by decide, by decide⟩ ?_
  refine Ev_st (ρ' := r615) (σ' := s615) rfl rfl ?_
  refine Ev_putR rfl rfl (fun _ => ⟨rfl, rfl⟩) (Or.inr ⟨rfl, rfl, rfl⟩) ?_
  refine Ev_st (ρ' := r616) (σ' := s616) rfl rfl ?_
  refine Ev_aload rfl rfl rfl ?_
  refine Ev_const rfl ?_
  refine Ev_newa rfl (by decide) rfl ⟨by decide, by decide⟩ ?_
  refine Ev_st (ρ' := r617) (σ' := s617) rfl rfl ?_
  refine Ev_putR rfl rfl (fun _ => ⟨rfl, rfl⟩) (Or.inr ⟨rfl, rfl, rfl⟩) ?_
  refine Ev_st (ρ' := r618) (σ' := s618) rfl rfl ?_
  refine Ev_aload rfl rfl rfl ?_
  refine Ev_const rfl ?_
  refine Ev_newa rfl (by decide) rfl ⟨by decide, by decide⟩ ?_
  refine Ev_st (ρ' := r619) (σ' := s619) rfl rfl ?_
  refine Ev_putR rfl rfl (fun _ => ⟨rfl, rfl⟩) (Or.inr ⟨rfl, rfl, rfl⟩) ?_
  refine Ev_st (ρ' := r620) (σ' := s620) rfl rfl ?_
  refine Ev_aload rfl rfl rfl ?_
  refine Ev_const rfl ?_
  refine Ev_newa rfl (by decide) rfl ⟨by decide, by decide⟩ ?_
  refine Ev_st (ρ' := r621) (σ' := s621) rfl rfl ?_
  refine Ev_putR rfl rfl (fun _ => ⟨rfl, rfl⟩) (Or.inr ⟨rfl, rfl, rfl⟩) ?_
  refine Ev_st (ρ' := r622) (σ' := s622) rfl rfl ?_
  refine Ev_aload rfl rfl rfl ?_
  refine Ev_const rfl ?_
  refine Ev_newa rfl (by decide) rfl ⟨by decide, by decide⟩ ?_
  refine Ev_st (ρ' := r623) (σ' := s623) rfl rfl ?_
  refine Ev_putR rfl rfl (fun _ => ⟨rfl, rfl⟩) (Or.inr ⟨rfl, rfl, rfl⟩) ?_
  refine Ev_st (ρ' := r624) (σ' := s624) rfl rfl ?_
  refine Ev_aload rfl rfl rfl ?_
  refine Ev_const rfl ?_
  refine Ev_newa rfl (by decide) rfl ⟨by decide, by decide⟩ ?_
  refine Ev_st (ρ' := r625) (σ' := s625) rfl rfl ?_
  refine Ev_putR rfl rfl (fun _ => ⟨rfl, rfl⟩) (Or.inr ⟨rfl, rfl, rfl⟩) ?_
  refine Ev_st (ρ' := r626) (σ' := s626) rfl rfl ?_
  refine Ev_aload rfl rfl rfl ?_
  refine Ev_const rfl ?_
  refine Ev_newa rfl (by decide) rfl ⟨by decide, by decide⟩ ?_
  refine Ev_st (ρ' := r627) (σ' := s627) rfl rfl ?_
  refine Ev_dup rfl (fun _ q => nomatch q) ?_
  refine Ev_const rfl ?_
  refine Ev_const rfl ?_
  refine Ev_iast rfl rfl (by unfold vp_in; decide) ?_
  refine Ev_st (ρ' := r628) (σ' := s628) rfl rfl ?_
  refine Ev_dup rfl (fun _ q => nomatch q) ?_
  refine Ev_const rfl ?_
  refine Ev_const rfl ?_
  refine Ev_iast rfl rfl (by unfold vp_in; decide) ?_
  refine Ev_st (ρ' := r629) (σ' := s629) rfl rfl ?_
  refine Ev_dup rfl (fun _ q => nomatch q) ?_
  refine Ev_const rfl ?_
  refine Ev_const rfl ?_
  refine Ev_iast rfl rfl (by unfold vp_in; decide) ?_
  refine Ev_st (ρ' := r630) (σ' := s630) rfl rfl ?_
  refine Ev_dup rfl (fun _ q => nomatch q) ?_
  refine Ev_const rfl ?_
  refine Ev_const rfl ?_
  refine Ev_iast rfl rfl (by unfold vp_in; decide) ?_
  refine Ev_st (ρ' := r631) (σ' := s631) rfl rfl ?_
  refine Ev_dup rfl (fun _ q => nomatch q) ?_
  refine Ev_const rfl ?_
  refine Ev_const rfl ?_
  refine Ev_iast rfl rfl (by unfold vp_in; decide) ?_
  refine Ev_st (ρ' := r632) (σ' := s632) rfl rfl ?_
  refine Ev_dup rfl (fun _ q => nomatch q) ?_
  refine Ev_const rfl ?_
  refine Ev_const rfl ?_
  refine Ev_iast rfl rfl (by unfold vp_in; decide) ?_
  refine Ev_st (ρ' := r633) (σ' := s633) rfl rfl ?_
  refine Ev_dup rfl (fun _ q => nomatch q) ?_
  refine Ev_const rfl ?_
  refine Ev_const rfl ?_
  refine Ev_iast rfl rfl (by unfold vp_in; decide) ?_
  refine Ev_st (ρ' := r634) (σ' := s634) rfl rfl ?_
  refine Ev_dup rfl (fun _ q => nomatch q) ?_
  refine Ev_const rfl ?_
  refine Ev_const rfl ?_
  refine Ev_iast rfl rfl (by unfold vp_in; decide) ?_
  refine Ev_st (ρ' := r635) (σ' := s635) rfl rfl ?_
  refine Ev_putR rfl rfl (fun _ => ⟨rfl, rfl⟩) (Or.inr ⟨rfl, rfl, rfl⟩) ?_
  refine Ev_st (ρ' := r636) (σ' := s636) rfl rfl ?_
  refine Ev_aload rfl rfl rfl ?_
  refine Ev_const rfl ?_
  refine Ev_newa rfl (by decide) rfl ⟨by decide, by decide⟩ ?_
  refine Ev_st (ρ' := r637) (σ' := s637) rfl rfl ?_
  refine Ev_putR rfl rfl (fun _ => ⟨rfl, rfl⟩) (Or.inr ⟨rfl, rfl, rfl⟩) ?_
  refine Ev_st (ρ' := r638) (σ' := s638) rfl rfl ?_
  refine Ev_aload rfl rfl rfl ?_
  refine Ev_const rfl ?_
  refine Ev_newa rfl (by decide) rfl ⟨by decide, by decide⟩ ?_
  refine Ev_st (ρ' := r639) (σ' := s639) rfl rfl ?_
  refine Ev_putR rfl rfl (fun _ => ⟨rfl, rfl⟩) (Or.inr ⟨rfl, rfl, rfl⟩) ?_
  refine Ev_st (ρ' := r640) (σ' := s640) rfl rfl ?_
  refine Ev_aload rfl rfl rfl ?_
  refine Ev_const rfl ?_
  refine Ev_newa rfl (by decide) rfl ⟨by decide, by decide⟩ ?_
  refine Ev_st (ρ' := r641) (σ' := s641) rfl rfl ?_
  refine Ev_putR rfl rfl (fun _ => ⟨rfl, rfl⟩) (Or.inr ⟨rfl, rfl, rfl⟩) ?_
  refine Ev_st (ρ' := r642) (σ' := s642) rfl rfl ?_
  refine Ev_aload rfl rfl rfl ?_
  refine Ev_const rfl ?_
  refine Ev_newa rfl (by decide) rfl ⟨by decide, by decide⟩ ?_
  refine Ev_st (ρ' := r643) (σ' := s643) rfl rfl ?_
  refine Ev_putR rfl rfl (fun _ => ⟨rfl, rfl⟩) (Or.inr ⟨rfl, rfl, rfl⟩) ?_
  refine Ev_st (ρ' := r644) (σ' := s644) rfl rfl ?_
  refine Ev_aload rfl rfl rfl ?_
  refine Ev_const rfl ?_
  refine Ev_putI rfl rfl ⟨rfl, rfl⟩ rfl ?_
  refine Ev_st (ρ' := r645) (σ' := s645) rfl rfl ?_
  refine Ev_aload rfl rfl rfl ?_
  refine Ev_const rfl ?_
  refine Ev_newa rfl (by decide) rfl ⟨by decide, by decide⟩ ?_
  refine Ev_st (ρ' := r646) (σ' := s646) rfl rfl ?_
  refine Ev_putR rfl rfl (fun _ => ⟨rfl, rfl⟩) (Or.inr ⟨rfl, rfl, rfl⟩) ?_
  refine Ev_st (ρ' := r647) (σ' := s647) rfl rfl ?_
  refine Ev_aload rfl rfl rfl ?_
  refine Ev_const rfl ?_
  refine Ev_newa rfl (by decide) rfl ⟨by decide, by decide⟩ ?_
  refine Ev_st (ρ' := r648) (σ' := s648) rfl rfl ?_
  refine Ev_putR rfl rfl (fun _ => ⟨rfl, rfl⟩) (Or.inr ⟨rfl, rfl, rfl⟩) ?_
  refine Ev_st (ρ' := r649) (σ' := s649) rfl rfl ?_
  refine Ev_aload rfl rfl rfl ?_
  refine Ev_const rfl ?_
  refine Ev_newa rfl (by decide) rfl ⟨by decide, by decide⟩ ?_
  refine Ev_st (ρ' := r650) (σ' := s650) rfl rfl ?_
  refine Ev_putR rfl rfl (fun _ => ⟨rfl, rfl⟩) (Or.inr ⟨rfl, rfl, rfl⟩) ?_
  refine Ev_st (ρ' := r651) (σ' := s651) rfl rfl ?_
  refine Ev_aload rfl rfl rfl ?_
  refine Ev_const rfl ?_
  refine Ev_newa rfl (by decide) rfl ⟨by decide, by decide⟩ ?_
  refine Ev_st (ρ' := r652) (σ' := s652) rfl rfl ?_
  refine Ev_putR rfl rfl (fun _ => ⟨rfl, rfl⟩) (Or.inr ⟨rfl, rfl, rfl⟩) ?_
  refine Ev_st (ρ' := r653) (σ' := s653) rfl rfl ?_
  refine Ev_aload rfl rfl rfl ?_
  refine Ev_const rfl ?_
  refine Ev_newa rfl (by decide) rfl ⟨by decide, by decide⟩ ?_
  refine Ev_st (ρ' := r654) (σ' := s654) rfl rfl ?_
  refine Ev_putR rfl rfl (fun _ => ⟨rfl, rfl⟩) (Or.inr ⟨rfl, rfl, rfl⟩) ?_
  refine Ev_st (ρ' := r655) (σ' := s655) rfl rfl ?_
  refine Ev_aload rfl rfl rfl ?_
  refine Ev_const rfl ?_
  refine Ev_newa rfl (by decide) rfl ⟨by decide, by decide⟩ ?_
  refine Ev_st (ρ' := r656) (σ' := s656) rfl rfl ?_
  refine Ev_putR rfl rfl (fun _ => ⟨rfl, rfl⟩) (Or.inr ⟨rfl, rfl, rfl⟩) ?_
  refine Ev_st (ρ' := r657) (σ' := s657) rfl rfl ?_
  refine Ev_aload rfl rfl rfl ?_
  refine Ev_const rfl ?_
  refine Ev_newa rfl (by decide) rfl ⟨by decide, by decide⟩ ?_
  refine Ev_st (ρ' := r658) (σ' := s658) rfl rfl ?_
  refine Ev_putR rfl rfl (fun _ => ⟨rfl, rfl⟩) (Or.inr ⟨rfl, rfl, rfl⟩) ?_
  refine Ev_st (ρ' := r659) (σ' := s659) rfl rfl ?_
  refine Ev_aload rfl rfl rfl ?_
  refine Ev_const rfl ?_
  refine Ev_newa rfl (by decide) rfl ⟨by decide, by decide⟩ ?_
  refine Ev_st (ρ' := r660) (σ' := s660) rfl rfl ?_
  refine Ev_putR rfl rfl (fun _ => ⟨rfl, rfl⟩) (Or.inr ⟨rfl, rfl, rfl⟩) ?_
  refine Ev_st (ρ' := r661) (σ' := s661) rfl rfl ?_
  refine Ev_aload rfl rfl rfl ?_
  refine Ev_constL rfl ?_
  refine Ev_putL rfl rfl rfl rfl ?_
  refine Ev_st (ρ' := r662) (σ' := s662) rfl rfl ?_
  refine Ev_aload rfl rfl rfl ?_
  refine Ev_const rfl ?_
  refine Ev_newa rfl (by decide) rfl ⟨by decide, by decide⟩ ?_
  refine Ev_st (ρ' := r663) (σ' := s663) rfl rfl ?_
  refine Ev_dup rfl (fun _ q => nomatch q) ?_
  refine Ev_const rfl ?_
  refine Ev_const rfl ?_
  refine Ev_cast rfl rfl (by unfold vp_in; decide) ?_
  refine Ev_st (ρ' := r664) (σ' := s664) rfl rfl ?_
  refine Ev_dup rfl (fun _ q => nomatch q) ?_
  refine Ev_const rfl ?_
  refine Ev_const rfl ?_
  refine Ev_cast rfl rfl (by unfold vp_in; decide) ?_
  refine Ev_st (ρ' := r665) (σ' := s665) rfl rfl ?_
  refine Ev_dup rfl (fun _ q => nomatch q) ?_
  refine Ev_const rfl ?_
  refine Ev_const rfl ?_
  refine Ev_cast rfl rfl (by unfold vp_in; decide) ?_
  refine Ev_st (ρ' := r666) (σ' := s666) rfl rfl ?_
  refine Ev_dup rfl (fun _ q => nomatch q) ?_
  refine Ev_const rfl ?_
  refine Ev_const rfl ?_
  refine Ev_cast rfl rfl (by unfold vp_in; decide) ?_
  refine Ev_st (ρ' := r667) (σ' := s667) rfl rfl ?_
  refine Ev_dup rfl (fun _ q => nomatch q) ?_
  refine Ev_const rfl ?_
  refine Ev_const rfl ?_
  refine Ev_cast rfl rfl (by unfold vp_in; decide) ?_
  refine Ev_st (ρ' := r668) (σ' := s668) rfl rfl ?_
  refine Ev_putR rfl rfl (fun _ => ⟨rfl, rfl⟩) (Or.inr ⟨rfl, rfl, rfl⟩) ?_
  refine Ev_st (ρ' := r669) (σ' := s669) rfl rfl ?_
  refine Ev_aload rfl rfl rfl ?_
  refine Ev_const rfl ?_
  refine Ev_newa rfl (by decide) rfl ⟨by decide, by decide⟩ ?_
  refine Ev_st (ρ' := r670) (σ' := s670) rfl rfl ?_
  refine Ev_dup rfl (fun _ q => nomatch q) ?_
  refine Ev_const rfl ?_
  refine Ev_const rfl ?_
  refine Ev_cast rfl rfl (by unfold vp_in; decide) ?_
  refine Ev_st (ρ' := r671) (σ' := s671) rfl rfl ?_
  refine Ev_dup rfl (fun _ q => nomatch q) ?_
  refine Ev_const rfl ?_
  refine Ev_const rfl ?_
  refine Ev_cast rfl rfl (by unfold vp_in; decide) ?_
  refine Ev_st (ρ' := r672) (σ' := s672) rfl rfl ?_
  refine Ev_dup rfl (fun _ q => nomatch q) ?_
  refine Ev_const rfl ?_
  refine Ev_const rfl ?_
  refine Ev_cast rfl rfl (by unfold vp_in; decide) ?_
  refine Ev_st (ρ' := r673) (σ' := s673) rfl rfl ?_
  refine Ev_dup rfl (fun _ q => nomatch q) ?_
  refine Ev_const rfl ?_
  refine Ev_const rfl ?_
  refine Ev_cast rfl rfl (by unfold vp_in; decide) ?_
  refine Ev_st (ρ' := r674) (σ' := s674) rfl rfl ?_
  refine Ev_putR rfl rfl (fun _ => ⟨rfl, rfl⟩) (Or.inr ⟨rfl, rfl, rfl⟩) ?_
  refine Ev_st (ρ' := r675) (σ' := s675) rfl rfl ?_
  refine Ev_aload rfl rfl rfl ?_
  refine Ev_const rfl ?_
  refine Ev_newa rfl (by decide) rfl ⟨by decide, by decide⟩ ?_
  refine Ev_st (ρ' := r676) (σ' := s676) rfl rfl ?_
  refine Ev_dup rfl (fun _ q => nomatch q) ?_
  refine Ev_const rfl ?_
  refine Ev_const rfl ?_
  refine Ev_cast rfl rfl (by unfold vp_in; decide) ?_
  refine Ev_st (ρ' := r677) (σ' := s677) rfl rfl ?_
  refine Ev_dup rfl (fun _ q => nomatch q) ?_
  refine Ev_const rfl ?_
  refine Ev_const rfl ?_
  refine Ev_cast rfl rfl (by unfold vp_in; decide) ?_
  refine Ev_st (ρ' := r678) (σ' := s678) rfl rfl ?_
  refine Ev_dup rfl (fun _ q => nomatch q) ?_
  refine Ev_const rfl ?_
  refine Ev_const rfl ?_
  refine Ev_cast rfl rfl (by unfold vp_in; decide) ?_
  refine Ev_st (ρ' := r679) (σ' := s679) rfl rfl ?_
  refine Ev_dup rfl (fun _ q => nomatch q) ?_
  refine Ev_const rfl ?_
  refine Ev_const rfl ?_
  refine Ev_cast rfl rfl (by unfold vp_in; decide) ?_
  refine Ev_st (ρ' := r680) (σ' := s680) rfl rfl ?_
  refine Ev_dup rfl (fun _ q => nomatch q) ?_
  refine Ev_const rfl ?_
  refine Ev_const rfl ?_
  refine Ev_cast rfl rfl (by unfold vp_in; decide) ?_
  refine Ev_st (ρ' := r681) (σ' := s681) rfl rfl ?_
  refine Ev_putR rfl rfl (fun _ => ⟨rfl, rfl⟩) (Or.inr ⟨rfl, rfl, rfl⟩) ?_
  refine Ev_st (ρ' := r682) (σ' := s682) rfl rfl ?_
  refine Ev_aload rfl rfl rfl ?_
  refine Ev_const rfl ?_
  refine Ev_newa rfl (by decide) rfl ⟨by decide, by decide⟩ ?_
  refine Ev_st (ρ' := r683) (σ' := s683) rfl rfl ?_
  refine Ev_dup rfl (fun _ q => nomatch q) ?_
  refine Ev_const rfl ?_
  refine Ev_const rfl ?_
  refine Ev_cast rfl rfl (by unfold vp_in; decide) ?_
  refine Ev_st (ρ' := r684) (σ' := s684) rfl rfl ?_
  refine Ev_dup rfl (fun _ q => nomatch q) ?_
  refine Ev_const rfl ?_
  refine Ev_const rfl ?_
  refine Ev_cast rfl rfl (by unfold vp_in; decide) ?_
  refine Ev_st (ρ' := r685) (σ' := s685) rfl rfl ?_
  refine Ev_dup rfl (fun _ q => nomatch q) ?_
  refine Ev_const rfl ?_
  refine Ev_const rfl ?_
  refine Ev_cast rfl rfl (by unfold vp_in; decide) ?_
  refine Ev_st (ρ' := r686) (σ' := s686) rfl rfl ?_
  refine Ev_dup rfl (fun _ q => nomatch q) ?_
  refine Ev_const rfl ?_
  refine Ev_const rfl ?_
  refine Ev_cast rfl rfl (by unfold vp_in; decide) ?_
  refine Ev_st (ρ' := r687) (σ' := s687) rfl rfl ?_
  refine Ev_dup rfl (fun _ q => nomatch q) ?_
  refine Ev_const rfl ?_
  refine Ev_const rfl ?_
  refine Ev_cast rfl rfl (by unfold vp_in; decide) ?_
  refine Ev_st (ρ' := r688) (σ' := s688) rfl rfl ?_
  refine Ev_putR rfl rfl (fun _ => ⟨rfl, rfl⟩) (Or.inr ⟨rfl, rfl, rfl⟩) ?_
  refine Ev_st (ρ' := r689) (σ' := s689) rfl rfl ?_
  refine Ev_aload rfl rfl rfl ?_
  refine Ev_const rfl ?_
  refine Ev_newa rfl (by decide) rfl ⟨by decide, by decide⟩ ?_
  refine Ev_st (ρ' := r690) (σ' := s690) rfl rfl ?_
  refine Ev_dup rfl (fun _ q => nomatch q) ?_
  refine Ev_const rfl ?_
  refine Ev_const rfl ?_
  refine Ev_cast rfl rfl (by unfold vp_in; decide) ?_
  refine Ev_st (ρ' := r691) (σ' := s691) rfl rfl ?_
  refine Ev_dup rfl (fun _ q => nomatch q) ?_
  refine Ev_const rfl ?_
  refine Ev_const rfl ?_
  refine Ev_cast rfl rfl (by unfold vp_in; decide) ?_
  refine Ev_st (ρ' := r692) (σ' := s692) rfl rfl ?_
  refine Ev_dup rfl (fun _ q => nomatch q) ?_
  refine Ev_const rfl ?_
  refine Ev_const rfl ?_
  refine Ev_cast rfl rfl (by unfold vp_in; decide) ?_
  refine Ev_st (ρ' := r693) (σ' := s693) rfl rfl ?_
  refine Ev_dup rfl (fun _ q => nomatch q) ?_
  refine Ev_const rfl ?_
  refine Ev_const rfl ?_
  refine Ev_cast rfl rfl (by unfold vp_in; decide) ?_
  refine Ev_st (ρ' := r694) (σ' := s694) rfl rfl ?_
  refine Ev_putR rfl rfl (fun _ => ⟨rfl, rfl⟩) (Or.inr ⟨rfl, rfl, rfl⟩) ?_
  refine Ev_st (ρ' := r695) (σ' := s695) rfl rfl ?_
  refine Ev_aload rfl rfl rfl ?_
  refine Ev_const rfl ?_
  refine Ev_newa rfl (by decide) rfl ⟨by decide, by decide⟩ ?_
  refine Ev_st (ρ' := r696) (σ' := s696) rfl rfl ?_
  refine Ev_dup rfl (fun _ q => nomatch q) ?_
  refine Ev_const rfl ?_
  refine Ev_const rfl ?_
  refine Ev_cast rfl rfl (by unfold vp_in; decide) ?_
  refine Ev_st (ρ' := r697) (σ' := s697) rfl rfl ?_
  refine Ev_dup rfl (fun _ q => nomatch q) ?_
  refine Ev_const rfl ?_
  refine Ev_const rfl ?_
  refine Ev_cast rfl rfl (by unfold vp_in; decide) ?_
  refine Ev_st (ρ' := r698) (σ' := s698) rfl rfl ?_
  refine Ev_dup rfl (fun _ q => nomatch q) ?_
  refine Ev_const rfl ?_
  refine Ev_const rfl ?_
  refine Ev_cast rfl rfl (by unfold vp_in; decide) ?_
  refine Ev_st (ρ' := r699) (σ' := s699) rfl rfl ?_
  refine Ev_dup rfl (fun _ q => nomatch q) ?_
  refine Ev_const rfl ?_
  refine Ev_const rfl ?_
  refine Ev_cast rfl rfl (by unfold vp_in; decide) ?_
  refine Ev_st (ρ' := r700) (σ' := s700) rfl rfl ?_
  refine Ev_dup rfl (fun _ q => nomatch q) ?_
  refine Ev_const rfl ?_
  refine Ev_const rfl ?_
  refine Ev_cast rfl rfl (by unfold vp_in; decide) ?_
  refine Ev_st (ρ' := r701) (σ' := s701) rfl rfl ?_
  refine Ev_putR rfl rfl (fun _ => ⟨rfl, rfl⟩) (Or.inr ⟨rfl, rfl, rfl⟩) ?_
  refine Ev_st (ρ' := r702) (σ' := s702) rfl rfl ?_
  refine Ev_aload rfl rfl rfl ?_
  refine Ev_const rfl ?_
  refine Ev_newa rfl (by decide) rfl ⟨by decide, by decide⟩ ?_
  refine Ev_st (ρ' := r703) (σ' := s703) rfl rfl ?_
  refine Ev_dup rfl (fun _ q => nomatch q) ?_
  refine Ev_const rfl ?_
  refine Ev_const rfl ?_
  refine Ev_cast rfl rfl (by unfold vp_in; decide) ?_
  refine Ev_st (ρ' := r704) (σ' := s704) rfl rfl ?_
  refine Ev_dup rfl (fun _ q => nomatch q) ?_
  refine Ev_const rfl ?_
  refine Ev_const rfl ?_
  refine Ev_cast rfl rfl (by unfold vp_in; decide) ?_
  refine Ev_st (ρ' := r705) (σ' := s705) rfl rfl ?_
  refine Ev_dup rfl (fun _ q => nomatch q) ?_
  refine Ev_const rfl ?_
  refine Ev_const rfl ?_
  refine Ev_cast rfl rfl (by unfold vp_in; decide) ?_
  refine Ev_st (ρ' := r706) (σ' := s706) rfl rfl ?_
  refine Ev_putR rfl rfl (fun _ => ⟨rfl, rfl⟩) (Or.inr ⟨rfl, rfl, rfl⟩) ?_
  refine Ev_st (ρ' := r707) (σ' := s707) rfl rfl ?_
  refine Ev_aload rfl rfl rfl ?_
  refine Ev_const rfl ?_
  refine Ev_newa rfl (by decide) rfl ⟨by decide, by decide⟩ ?_
  refine Ev_st (ρ' := r708) (σ' := s708) rfl rfl ?_
  refine Ev_dup rfl (fun _ q => nomatch q) ?_
  refine Ev_const rfl ?_
  refine Ev_const rfl ?_
  refine Ev_cast rfl rfl (by unfold vp_in; decide) ?_
  refine Ev_st (ρ' := r709) (σ' := s709) rfl rfl ?_
  refine Ev_dup rfl (fun _ q => nomatch q) ?_
  refine Ev_const rfl ?_
  refine Ev_const rfl ?_
  refine Ev_cast rfl rfl (by unfold vp_in; decide) ?_
  refine Ev_st (ρ' := r710) (σ' := s710) rfl rfl ?_
  refine Ev_dup rfl (fun _ q => nomatch q) ?_
  refine Ev_const rfl ?_
  refine Ev_const rfl ?_
  refine Ev_cast rfl rfl (by unfold vp_in; decide) ?_
  refine Ev_st (ρ' := r711) (σ' := s711) rfl rfl ?_
  refine Ev_putR rfl rfl (fun _ => ⟨rfl, rfl⟩) (Or.inr ⟨rfl, rfl, rfl⟩) ?_
  refine Ev_st (ρ' := r712) (σ' := s712) rfl rfl ?_
  refine Ev_aload rfl rfl rfl ?_
  refine Ev_const rfl ?_
  refine Ev_newa rfl (by decide) rfl ⟨by decide, by decide⟩ ?_
  refine Ev_st (ρ' := r713) (σ' := s713) rfl rfl ?_
  refine Ev_dup rfl (fun _ q => nomatch q) ?_
  refine Ev_const rfl ?_
  refine Ev_const rfl ?_
  refine Ev_cast rfl rfl (by unfold vp_in; decide) ?_
  refine Ev_st (ρ' := r714) (σ' := s714) rfl rfl ?_
  refine Ev_dup rfl (fun _ q => nomatch q) ?_
  refine Ev_const rfl ?_
  refine Ev_const rfl ?_
  refine Ev_cast rfl rfl (by unfold vp_in; decide) ?_
  refine Ev_st (ρ' := r715) (σ' := s715) rfl rfl ?_
  refine Ev_putR rfl rfl (fun _ => ⟨rfl, rfl⟩) (Or.inr ⟨rfl, rfl, rfl⟩) ?_
  refine Ev_st (ρ' := r716) (σ' := s716) rfl rfl ?_
  refine Ev_aload rfl rfl rfl ?_
  refine Ev_const rfl ?_
  refine Ev_newa rfl (by decide) rfl ⟨by decide, by decide⟩ ?_
  refine Ev_st (ρ' := r717) (σ' := s717) rfl rfl ?_
  refine Ev_dup rfl (fun _ q => nomatch q) ?_
  refine Ev_const rfl ?_
  refine Ev_const rfl ?_
  refine Ev_cast rfl rfl (by unfold vp_in; decide) ?_
  refine Ev_st (ρ' := r718) (σ' := s718) rfl rfl ?_
  refine Ev_dup rfl (fun _ q => nomatch q) ?_
  refine Ev_const rfl ?_
  refine Ev_const rfl ?_
  refine Ev_cast rfl rfl (by unfold vp_in; decide) ?_
  refine Ev_st (ρ' := r719) (σ' := s719) rfl rfl ?_
  refine Ev_dup rfl (fun _ q => nomatch q) ?_
  refine Ev_const rfl ?_
  refine Ev_const rfl ?_
  refine Ev_cast rfl rfl (by unfold vp_in; decide) ?_
  refine Ev_st (ρ' := r720) (σ' := s720) rfl rfl ?_
  refine Ev_putR rfl rfl (fun _ => ⟨rfl, rfl⟩) (Or.inr ⟨rfl, rfl, rfl⟩) ?_
  refine Ev_st (ρ' := r721) (σ' := s721) rfl rfl ?_
  refine Ev_aload rfl rfl rfl ?_
  refine Ev_const rfl ?_
  refine Ev_newa rfl (by decide) rfl ⟨by decide, by decide⟩ ?_
  refine Ev_st (ρ' := r722) (σ' := s722) rfl rfl ?_
  refine Ev_dup rfl (fun _ q => nomatch q) ?_
  refine Ev_const rfl ?_
  refine Ev_const rfl ?_
  refine Ev_cast rfl rfl (by unfold vp_in; decide) ?_
  refine Ev_st (ρ' := r723) (σ' := s723) rfl rfl ?_
  refine Ev_dup rfl (fun _ q => nomatch q) ?_
  refine Ev_const rfl ?_
  refine Ev_const rfl ?_
  refine Ev_cast rfl rfl (by unfold vp_in; decide) ?_
  refine Ev_st (ρ' := r724) (σ' := s724) rfl rfl ?_
  refine Ev_dup rfl (fun _ q => nomatch q) ?_
  refine Ev_const rfl ?_
  refine Ev_const rfl ?_
  refine Ev_cast rfl rfl (by unfold vp_in; decide) ?_
  refine Ev_st (ρ' := r725) (σ' := s725) rfl rfl ?_
  refine Ev_putR rfl rfl (fun _ => ⟨rfl, rfl⟩) (Or.inr ⟨rfl, rfl, rfl⟩) ?_
  refine Ev_st (ρ' := r726) (σ' := s726) rfl rfl ?_
  refine Ev_aload rfl rfl rfl ?_
  refine Ev_const rfl ?_
  refine Ev_newa rfl (by decide) rfl ⟨by decide, by decide⟩ ?_
  refine Ev_st (ρ' := r727) (σ' := s727) rfl rfl ?_
  refine Ev_dup rfl (fun _ q => nomatch q) ?_
  refine Ev_const rfl ?_
  refine Ev_const rfl ?_
  refine Ev_cast rfl rfl (by unfold vp_in; decide) ?_
  refine Ev_st (ρ' := r728) (σ' := s728) rfl rfl ?_
  refine Ev_dup rfl (fun _ q => nomatch q) ?_
  refine Ev_const rfl ?_
  refine Ev_const rfl ?_
  refine Ev_cast rfl rfl (by unfold vp_in; decide) ?_
  refine Ev_st (ρ' := r729) (σ' := s729) rfl rfl ?_
  refine Ev_dup rfl (fun _ q => nomatch q) ?_
  refine Ev_const rfl ?_
  refine Ev_const rfl ?_
  refine Ev_cast rfl rfl (by unfold vp_in; decide) ?_
  refine Ev_st (ρ' := r730) (σ' := s730) rfl rfl ?_
  refine Ev_putR rfl rfl (fun _ => ⟨rfl, rfl⟩) (Or.inr ⟨rfl, rfl, rfl⟩) ?_
  refine Ev_st (ρ' := r731) (σ' := s731) rfl rfl ?_
  refine Ev_aload rfl rfl rfl ?_
  refine Ev_const rfl ?_
  refine Ev_newa rfl (by decide) rfl ⟨by decide, by decide⟩ ?_
  refine Ev_st (ρ' := r732) (σ' := s732) rfl rfl ?_
  refine Ev_dup rfl (fun _ q => nomatch q) ?_
  refine Ev_const rfl ?_
  refine Ev_const rfl ?_
  refine Ev_cast rfl rfl (by unfold vp_in; decide) ?_
  refine Ev_st (ρ' := r733) (σ' := s733) rfl rfl ?_
  refine Ev_dup rfl (fun _ q => nomatch q) ?_
  refine Ev_const rfl ?_
  refine Ev_const rfl ?_
  refine Ev_cast rfl rfl (by unfold vp_in; decide) ?_
  refine Ev_st (ρ' := r734) (σ' := s734) rfl rfl ?_
  refine Ev_dup rfl (fun _ q => nomatch q) ?_
  refine Ev_const rfl ?_
  refine Ev_const rfl ?_
  refine Ev_cast rfl rfl (by unfold vp_in; decide) ?_
  refine Ev_st (ρ' := r735) (σ' := s735) rfl rfl ?_
  refine Ev_dup rfl (fun _ q => nomatch q) ?_
  refine Ev_const rfl ?_
  refine Ev_const rfl ?_
  refine Ev_cast rfl rfl (by unfold vp_in; decide) ?_
  refine Ev_st (ρ' := r736) (σ' := s736) rfl rfl ?_
  refine Ev_putR rfl rfl (fun _ => ⟨rfl, rfl⟩) (Or.inr ⟨rfl, rfl, rfl⟩) ?_
  refine Ev_st (ρ' := r737) (σ' := s737) rfl rfl ?_
  refine Ev_aload rfl rfl rfl ?_
  refine Ev_const rfl ?_
  refine Ev_newa rfl (by decide) rfl ⟨by decide, by decide⟩ ?_
  refine Ev_st (ρ' := r738) (σ' := s738) rfl rfl ?_
  refine Ev_dup rfl (fun _ q => nomatch q) ?_
  refine Ev_const rfl ?_
  refine Ev_const rfl ?_
  refine Ev_cast rfl rfl (by unfold vp_in; decide) ?_
  refine Ev_st (ρ' := r739) (σ' := s739) rfl rfl ?_
  refine Ev_dup rfl (fun _ q => nomatch q) ?_
  refine Ev_const rfl ?_
  refine Ev_const rfl ?_
  refine Ev_cast rfl rfl (by unfold vp_in; decide) ?_
  refine Ev_st (ρ' := r740) (σ' := s740) rfl rfl ?_
  refine Ev_dup rfl (fun _ q => nomatch q) ?_
  refine Ev_const rfl ?_
  refine Ev_const rfl ?_
  refine Ev_cast rfl rfl (by unfold vp_in; decide) ?_
  refine Ev_st (ρ' := r741) (σ' := s741) rfl rfl ?_
  refine Ev_dup rfl (fun _ q => nomatch q) ?_
  refine Ev_const rfl ?_
  refine Ev_const rfl ?_
  refine Ev_cast rfl rfl (by unfold vp_in; decide) ?_
  refine Ev_st (ρ' := r742) (σ' := s742) rfl rfl ?_
  refine Ev_dup rfl (fun _ q => nomatch q) ?_
  refine Ev_const rfl ?_
  refine Ev_const rfl ?_
  refine Ev_cast rfl rfl (by unfold vp_in; decide) ?_
  refine Ev_st (ρ' := r743) (σ' := s743) rfl rfl ?_
  refine Ev_putR rfl rfl (fun _ => ⟨rfl, rfl⟩) (Or.inr ⟨rfl, rfl, rfl⟩) ?_
  refine Ev_st (ρ' := r744) (σ' := s744) rfl rfl ?_
  refine Ev_aload rfl rfl rfl ?_
  refine Ev_const rfl ?_
  refine Ev_newa rfl (by decide) rfl ⟨by decide, by decide⟩ ?_
  refine Ev_st (ρ' := r745) (σ' := s745) rfl rfl ?_
  refine Ev_dup rfl (fun _ q => nomatch q) ?_
  refine Ev_const rfl ?_
  refine Ev_const rfl ?_
  refine Ev_cast rfl rfl (by unfold vp_in; decide) ?_
  refine Ev_st (ρ' := r746) (σ' := s746) rfl rfl ?_
  refine Ev_dup rfl (fun _ q => nomatch q) ?_
  refine Ev_const rfl ?_
  refine Ev_const rfl ?_
  refine Ev_cast rfl rfl (by unfold vp_in; decide) ?_
  refine Ev_st (ρ' := r747) (σ' := s747) rfl rfl ?_
  refine Ev_dup rfl (fun _ q => nomatch q) ?_
  refine Ev_const rfl ?_
  refine Ev_const rfl ?_
  refine Ev_cast rfl rfl (by unfold vp_in; decide) ?_
  refine Ev_st (ρ' := r748) (σ' := s748) rfl rfl ?_
  refine Ev_dup rfl (fun _ q => nomatch q) ?_
  refine Ev_const rfl ?_
  refine Ev_const rfl ?_
  refine Ev_cast rfl rfl (by unfold vp_in; decide) ?_
  refine Ev_st (ρ' := r749) (σ' := s749) rfl rfl ?_
  refine Ev_putR rfl rfl (fun _ => ⟨rfl, rfl⟩) (Or.inr ⟨rfl, rfl, rfl⟩) ?_
  refine Ev_st (ρ' := r750) (σ' := s750) rfl rfl ?_
  refine Ev_aload rfl rfl rfl ?_
  refine Ev_const rfl ?_
  refine Ev_newa rfl (by decide) rfl ⟨by decide, by decide⟩ ?_
  refine Ev_st (ρ' := r751) (σ' := s751) rfl rfl ?_
  refine Ev_dup rfl (fun _ q => nomatch q) ?_
  refine Ev_const rfl ?_
  refine Ev_const rfl ?_
  refine Ev_cast rfl rfl (by unfold vp_in; decide) ?_
  refine Ev_st (ρ' := r752) (σ' := s752) rfl rfl ?_
  refine Ev_dup rfl (fun _ q => nomatch q) ?_
  refine Ev_const rfl ?_
  refine Ev_const rfl ?_
  refine Ev_cast rfl rfl (by unfold vp_in; decide) ?_
  refine Ev_st (ρ' := r753) (σ' := s753) rfl rfl ?_
  refine Ev_dup rfl (fun _ q => nomatch q) ?_
  refine Ev_const rfl ?_
  refine Ev_const rfl ?_
  refine Ev_cast rfl rfl (by unfold vp_in; decide) ?_
  refine Ev_st (ρ' := r754) (σ' := s754) rfl rfl ?_
  refine Ev_dup rfl (fun _ q => nomatch q) ?_
  refine Ev_const rfl ?_
  refine Ev_const rfl ?_
  refine Ev_cast rfl rfl (by unfold vp_in; decide) ?_
  refine Ev_st (ρ' := r755) (σ' := s755) rfl rfl ?_
  refine Ev_dup rfl (fun _ q => nomatch q) ?_
  refine Ev_const rfl ?_
  refine Ev_const rfl ?_
  refine Ev_cast rfl rfl (by unfold vp_in; decide) ?_
  refine Ev_st (ρ' := r756) (σ' := s756) rfl rfl ?_
  refine Ev_putR rfl rfl (fun _ => ⟨rfl, rfl⟩) (Or.inr ⟨rfl, rfl, rfl⟩) ?_
  refine Ev_st (ρ' := r757) (σ' := s757) rfl rfl ?_
  refine Ev_aload rfl rfl rfl ?_
  refine Ev_const rfl ?_
  refine Ev_newa rfl (by decide) rfl ⟨by decide, by decide⟩ ?_
  refine Ev_st (ρ' := r758) (σ' := s758) rfl rfl ?_
  refine Ev_dup rfl (fun _ q => nomatch q) ?_
  refine Ev_const rfl ?_
  refine Ev_const rfl ?_
  refine Ev_cast rfl rfl (by unfold vp_in; decide) ?_
  refine Ev_st (ρ' := r759) (σ' := s759) rfl rfl ?_
  refine Ev_dup rfl (fun _ q => nomatch q) ?_
  refine Ev_const rfl ?_
  refine Ev_const rfl ?_
  refine Ev_cast rfl rfl (by unfold vp_in; decide) ?_
  refine Ev_st (ρ' := r760) (σ' := s760) rfl rfl ?_
  refine Ev_dup rfl (fun _ q => nomatch q) ?_
  refine Ev_const rfl ?_
  refine Ev_const rfl ?_
  refine Ev_cast rfl rfl (by unfold vp_in; decide) ?_
  refine Ev_st (ρ' := r761) (σ' := s761) rfl rfl ?_
  refine Ev_dup rfl (fun _ q => nomatch q) ?_
  refine Ev_const rfl ?_
  refine Ev_const rfl ?_
  refine Ev_cast rfl rfl (by unfold vp_in; decide) ?_
  refine Ev_st (ρ' := r762) (σ' := s762) rfl rfl ?_
  refine Ev_putR rfl rfl (fun _ => ⟨rfl, rfl⟩) (Or.inr ⟨rfl, rfl, rfl⟩) ?_
  refine Ev_st (ρ' := r763) (σ' := s763) rfl rfl ?_
  refine Ev_aload rfl rfl rfl ?_
  refine Ev_const rfl ?_
  refine Ev_newa rfl (by decide) rfl ⟨by decide, by decide⟩ ?_
  refine Ev_st (ρ' := r764) (σ' := s764) rfl rfl ?_
  refine Ev_dup rfl (fun _ q => nomatch q) ?_
  refine Ev_const rfl ?_
  refine Ev_const rfl ?_
  refine Ev_cast rfl rfl (by unfold vp_in; decide) ?_
  refine Ev_st (ρ' := r765) (σ' := s765) rfl rfl ?_
  refine Ev_dup rfl (fun _ q => nomatch q) ?_
  refine Ev_const rfl ?_
  refine Ev_const rfl ?_
  refine Ev_cast rfl rfl (by unfold vp_in; decide) ?_
  refine Ev_st (ρ' := r766) (σ' := s766) rfl rfl ?_
  refine Ev_dup rfl (fun _ q => nomatch q) ?_
  refine Ev_const rfl ?_
  refine Ev_const rfl ?_
  refine Ev_cast rfl rfl (by unfold vp_in; decide) ?_
  refine Ev_st (ρ' := r767) (σ' := s767) rfl rfl ?_
  refine Ev_dup rfl (fun _ q => nomatch q) ?_
  refine Ev_const rfl ?_
  refine Ev_const rfl ?_
  refine Ev_cast rfl rfl (by unfold vp_in; decide) ?_
  refine Ev_st (ρ' := r768) (σ' := s768) rfl rfl ?_
  refine Ev_putR rfl rfl (fun _ => ⟨rfl, rfl⟩) (Or.inr ⟨rfl, rfl, rfl⟩) ?_
  refine Ev_st (ρ' := r769) (σ' := s769) rfl rfl ?_
  refine Ev_aload rfl rfl rfl ?_
  refine Ev_const rfl ?_
  refine Ev_newa rfl (by decide) rfl ⟨by decide, by decide⟩ ?_
  refine Ev_st (ρ' := r770) (σ' := s770) rfl rfl ?_
  refine Ev_dup rfl (fun _ q => nomatch q) ?_
  refine Ev_const rfl ?_
  refine Ev_const rfl ?_
  refine Ev_cast rfl rfl (by unfold vp_in; decide) ?_
  refine Ev_st (ρ' := r771) (σ' := s771) rfl rfl ?_
  refine Ev_dup rfl (fun _ q => nomatch q) ?_
  refine Ev_const rfl ?_
  refine Ev_const rfl ?_
  refine Ev_cast rfl rfl (by unfold vp_in; decide) ?_
  refine Ev_st (ρ' := r772) (σ' := s772) rfl rfl ?_
  refine Ev_dup rfl (fun _ q => nomatch q) ?_
  refine Ev_const rfl ?_
  refine Ev_const rfl ?_
  refine Ev_cast rfl rfl (by unfold vp_in; decide) ?_
  refine Ev_st (ρ' := r773) (σ' := s773) rfl rfl ?_
  refine Ev_dup rfl (fun _ q => nomatch q) ?_
  refine Ev_const rfl ?_
  refine Ev_const rfl ?_
  refine Ev_cast rfl rfl (by unfold vp_in; decide) ?_
  refine Ev_st (ρ' := r774) (σ' := s774) rfl rfl ?_
  refine Ev_dup rfl (fun _ q => nomatch q) ?_
  refine Ev_const rfl ?_
  refine Ev_const rfl ?_
  refine Ev_cast rfl rfl (by unfold vp_in; decide) ?_
  refine Ev_st (ρ' := r775) (σ' := s775) rfl rfl ?_
  refine Ev_dup rfl (fun _ q => nomatch q) ?_
  refine Ev_const rfl ?_
  refine Ev_const rfl ?_
  refine Ev_cast rfl rfl (by unfold vp_in; decide) ?_
  refine Ev_st (ρ' := r776) (σ' := s776) rfl rfl ?_
  refine Ev_dup rfl (fun _ q => nomatch q) ?_
  refine Ev_const rfl ?_
  refine Ev_const rfl ?_
  refine Ev_cast rfl rfl (by unfold vp_in; decide) ?_
  refine Ev_st (ρ' := r777) (σ' := s777) rfl rfl ?_
  refine Ev_dup rfl (fun _ q => nomatch q) ?_
  refine Ev_const rfl ?_
  refine Ev_const rfl ?_
  refine Ev_cast rfl rfl (by unfold vp_in; decide) ?_
  refine Ev_st (ρ' := r778) (σ' := s778) rfl rfl ?_
  refine Ev_putR rfl rfl (fun _ => ⟨rfl, rfl⟩) (Or.inr ⟨rfl, rfl, rfl⟩) ?_
  refine Ev_st (ρ' := r779) (σ' := s779) rfl rfl ?_
  refine Ev_aload rfl rfl rfl ?_
  refine Ev_const rfl ?_
  refine Ev_newa rfl (by decide) rfl ⟨by decide, by decide⟩ ?_
  refine Ev_st (ρ' := r780) (σ' := s780) rfl rfl ?_
  refine Ev_dup rfl (fun _ q => nomatch q) ?_
  refine Ev_const rfl ?_
  refine Ev_const rfl ?_
  refine Ev_cast rfl rfl (by unfold vp_in; decide) ?_
  refine Ev_st (ρ' := r781) (σ' := s781) rfl rfl ?_
  refine Ev_dup rfl (fun _ q => nomatch q) ?_
  refine Ev_const rfl ?_
  refine Ev_const rfl ?_
  refine Ev_cast rfl rfl (by unfold vp_in; decide) ?_
  refine Ev_st (ρ' := r782) (σ' := s782) rfl rfl ?_
  refine Ev_dup rfl (fun _ q => nomatch q) ?_
  refine Ev_const rfl ?_
  refine Ev_const rfl ?_
  refine Ev_cast rfl rfl (by unfold vp_in; decide) ?_
  refine Ev_st (ρ' := r783) (σ' := s783) rfl rfl ?_
  refine Ev_dup rfl (fun _ q => nomatch q) ?_
  refine Ev_const rfl ?_
  refine Ev_const rfl ?_
  refine Ev_cast rfl rfl (by unfold vp_in; decide) ?_
  refine Ev_st (ρ' := r784) (σ' := s784) rfl rfl ?_
  refine Ev_dup rfl (fun _ q => nomatch q) ?_
  refine Ev_const rfl ?_
  refine Ev_const rfl ?_
  refine Ev_cast rfl rfl (by unfold vp_in; decide) ?_
  refine Ev_st (ρ' := r785) (σ' := s785) rfl rfl ?_
  refine Ev_dup rfl (fun _ q => nomatch q) ?_
  refine Ev_const rfl ?_
  refine Ev_const rfl ?_
  refine Ev_cast rfl rfl (by unfold vp_in; decide) ?_
  refine Ev_st (ρ' := r786) (σ' := s786) rfl rfl ?_
  refine Ev_putR rfl rfl (fun _ => ⟨rfl, rfl⟩) (Or.inr ⟨rfl, rfl, rfl⟩) ?_
  refine Ev_st (ρ' := r787) (σ' := s787) rfl rfl ?_
  refine Ev_aload rfl rfl rfl ?_
  refine Ev_const rfl ?_
  refine Ev_newa rfl (by decide) rfl ⟨by decide, by decide⟩ ?_
  refine Ev_st (ρ' := r788) (σ' := s788) rfl rfl ?_
  refine Ev_dup rfl (fun _ q => nomatch q) ?_
  refine Ev_const rfl ?_
  refine Ev_const rfl ?_
  refine Ev_cast rfl rfl (by unfold vp_in; decide) ?_
  refine Ev_st (ρ' := r789) (σ' := s789) rfl rfl ?_
  refine Ev_dup rfl (fun _ q => nomatch q) ?_
  refine Ev_const rfl ?_
  refine Ev_const rfl ?_
  refine Ev_cast rfl rfl (by unfold vp_in; decide) ?_
  refine Ev_st (ρ' := r790) (σ' := s790) rfl rfl ?_
  refine Ev_dup rfl (fun _ q => nomatch q) ?_
  refine Ev_const rfl ?_
  refine Ev_const rfl ?_
  refine Ev_cast rfl rfl (by unfold vp_in; decide) ?_
  refine Ev_st (ρ' := r791) (σ' := s791) rfl rfl ?_
  refine Ev_dup rfl (fun _ q => nomatch q) ?_
  refine Ev_const rfl ?_
  refine Ev_const rfl ?_
  refine Ev_cast rfl rfl (by unfold vp_in; decide) ?_
  refine Ev_st (ρ' := r792) (σ' := s792) rfl rfl ?_
  refine Ev_dup rfl (fun _ q => nomatch q) ?_
  refine Ev_const rfl ?_
  refine Ev_const rfl ?_
  refine Ev_cast rfl rfl (by unfold vp_in; decide) ?_
  refine Ev_st (ρ' := r793) (σ' := s793) rfl rfl ?_
  refine Ev_dup rfl (fun _ q => nomatch q) ?_
  refine Ev_const rfl ?_
  refine Ev_const rfl ?_
  refine Ev_cast rfl rfl (by unfold vp_in; decide) ?_
  refine Ev_st (ρ' := r794) (σ' := s794) rfl rfl ?_
  refine Ev_putR rfl rfl (fun _ => ⟨rfl, rfl⟩) (Or.inr ⟨rfl, rfl, rfl⟩) ?_
  refine Ev_st (ρ' := r795) (σ' := s795) rfl rfl ?_
  refine Ev_aload rfl rfl rfl ?_
  refine Ev_const rfl ?_
  refine Ev_newa rfl (by decide) rfl ⟨by decide, by decide⟩ ?_
  refine Ev_st (ρ' := r796) (σ' := s796) rfl rfl ?_
  refine Ev_dup rfl (fun _ q => nomatch q) ?_
  refine Ev_const rfl ?_
  refine Ev_const rfl ?_
  refine Ev_cast rfl rfl (by unfold vp_in; decide) ?_
  refine Ev_st (ρ' := r797) (σ' := s797) rfl rfl ?_
  refine Ev_dup rfl (fun _ q => nomatch q) ?_
  refine Ev_const rfl ?_
  refine Ev_const rfl ?_
  refine Ev_cast rfl rfl (by unfold vp_in; decide) ?_
  refine Ev_st (ρ' := r798) (σ' := s798) rfl rfl ?_
  refine Ev_dup rfl (fun _ q => nomatch q) ?_
  refine Ev_const rfl ?_
  refine Ev_const rfl ?_
  refine Ev_cast rfl rfl (by unfold vp_in; decide) ?_
  refine Ev_st (ρ' := r799) (σ' := s799) rfl rfl ?_
  refine Ev_dup rfl (fun _ q => nomatch q) ?_
  refine Ev_const rfl ?_
  refine Ev_const rfl ?_
  refine Ev_cast rfl rfl (by unfold vp_in; decide) ?_
  refine Ev_st (ρ' := r800) (σ' := s800) rfl rfl ?_
  refine Ev_dup rfl (fun _ q => nomatch q) ?_
  refine Ev_const rfl ?_
  refine Ev_const rfl ?_
  refine Ev_cast rfl rfl (by unfold vp_in; decide) ?_
  refine Ev_st (ρ' := r801) (σ' := s801) rfl rfl ?_
  refine Ev_putR rfl rfl (fun _ => ⟨rfl, rfl⟩) (Or.inr ⟨rfl, rfl, rfl⟩) ?_
  refine Ev_st (ρ' := r802) (σ' := s802) rfl rfl ?_
  refine Ev_aload rfl rfl rfl ?_
  refine Ev_const rfl ?_
  refine Ev_newa rfl (by decide) rfl ⟨by decide, by decide⟩ ?_
  refine Ev_st (ρ' := r803) (σ' := s803) rfl rfl ?_
  refine Ev_dup rfl (fun _ q => nomatch q) ?_
  refine Ev_const rfl ?_
  refine Ev_const rfl ?_
  refine Ev_cast rfl rfl (by unfold vp_in; decide) ?_
  refine Ev_st (ρ' := r804) (σ' := s804) rfl rfl ?_
  refine Ev_dup rfl (fun _ q => nomatch q) ?_
  refine Ev_const rfl ?_
  refine Ev_const rfl ?_
  refine Ev_cast rfl rfl (by unfold vp_in; decide) ?_
  refine Ev_st (ρ' := r805) (σ' := s805) rfl rfl ?_
  refine Ev_dup rfl (fun _ q => nomatch q) ?_
  refine Ev_const rfl ?_
  refine Ev_const rfl ?_
  refine Ev_cast rfl rfl (by unfold vp_in; decide) ?_
  refine Ev_st (ρ' := r806) (σ' := s806) rfl rfl ?_
  refine Ev_dup rfl (fun _ q => nomatch q) ?_
  refine Ev_const rfl ?_
  refine Ev_const rfl ?_
  refine Ev_cast rfl rfl (by unfold vp_in; decide) ?_
  refine Ev_st (ρ' := r807) (σ' := s807) rfl rfl ?_
  refine Ev_dup rfl (fun _ q => nomatch q) ?_
  refine Ev_const rfl ?_
  refine Ev_const rfl ?_
  refine Ev_cast rfl rfl (by unfold vp_in; decide) ?_
  refine Ev_st (ρ' := r808) (σ' := s808) rfl rfl ?_
  refine Ev_putR rfl rfl (fun _ => ⟨rfl, rfl⟩) (Or.inr ⟨rfl, rfl, rfl⟩) ?_
  refine Ev_st (ρ' := r809) (σ' := s809) rfl rfl ?_
  refine Ev_aload rfl rfl rfl ?_
  refine Ev_const rfl ?_
  refine Ev_newa rfl (by decide) rfl ⟨by decide, by decide⟩ ?_
  refine Ev_st (ρ' := r810) (σ' := s810) rfl rfl ?_
  refine Ev_putR rfl rfl (fun _ => ⟨rfl, rfl⟩) (Or.inr ⟨rfl, rfl, rfl⟩) ?_
  refine Ev_st (ρ' := r811) (σ' := s811) rfl rfl ?_
  refine Ev_aload rfl rfl rfl ?_
  refine Ev_const rfl ?_
  refine Ev_newa rfl (by decide) rfl ⟨by decide, by decide⟩ ?_
  refine Ev_st (ρ' := r812) (σ' := s812) rfl rfl ?_
  refine Ev_putR rfl rfl (fun _ => ⟨rfl, rfl⟩) (Or.inr ⟨rfl, rfl, rfl⟩) ?_
  refine Ev_st (ρ' := r813) (σ' := s813) rfl rfl ?_
  refine Ev_aload rfl rfl rfl ?_
  refine Ev_const rfl ?_
  refine Ev_newa rfl (by decide) rfl ⟨by decide, by decide⟩ ?_
  refine Ev_st (ρ' := r814) (σ' := s814) rfl rfl ?_
  refine Ev_putR rfl rfl (fun _ => ⟨rfl, rfl⟩) (Or.inr ⟨rfl, rfl, rfl⟩) ?_
  refine Ev_st (ρ' := r815) (σ' := s815) rfl rfl ?_
  refine Ev_aload rfl rfl rfl ?_
  refine Ev_const rfl ?_
  refine Ev_newa rfl (by decide) rfl ⟨by decide, by decide⟩ ?_
  refine Ev_st (ρ' := r816) (σ' := s816) rfl rfl ?_
  refine Ev_putR rfl rfl (fun _ => ⟨rfl, rfl⟩) (Or.inr ⟨rfl, rfl, rfl⟩) ?_
  refine Ev_st (ρ' := r817) (σ' := s817) rfl rfl ?_
  exact Ev_return rfl rfl rfl ⟨rfl, rfl, rfl⟩
end EvK1

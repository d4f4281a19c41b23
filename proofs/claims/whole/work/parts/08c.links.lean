theorem lkm158 : lkM mr158 = true := by decide +kernel
theorem lkm159 : lkM mr159 = true := by decide +kernel
theorem lkm160 : lkM mr160 = true := by decide +kernel
theorem lkm161 : lkM mr161 = true := by decide +kernel
theorem lkm162 : lkM mr162 = true := by decide +kernel
theorem lkm163 : lkM mr163 = true := by decide +kernel
theorem lkm164 : lkM mr164 = true := by decide +kernel
theorem lkm165 : lkM mr165 = true := by decide +kernel
theorem lkm166 : lkM mr166 = true := by decide +kernel
theorem lkm167 : lkM mr167 = true := by decide +kernel
theorem lkm168 : lkM mr168 = true := by decide +kernel
theorem lkm169 : lkM mr169 = true := by decide +kernel
theorem lkm170 : lkM mr170 = true := by decide +kernel
theorem lkm171 : lkM mr171 = true := by decide +kernel
theorem lkm172 : lkM mr172 = true := by decide +kernel
theorem lkm173 : lkM mr173 = true := by decide +kernel
theorem lkm174 : lkM mr174 = true := by decide +kernel
theorem lkm175 : lkM mr175 = true := by decide +kernel
theorem lkm176 : lkM mr176 = true := by decide +kernel
theorem lkm177 : lkM mr177 = true := by decide +kernel
theorem lkm178 : lkM mr178 = true := by decide +kernel
theorem lkm179 : lkM mr179 = true := by decide +kernel
theorem lkm180 : lkM mr180 = true := by decide +kernel
theorem lkm181 : lkM mr181 = true := by decide +kernel
theorem lkm182 : lkM mr182 = true := by decide +kernel
theorem lkm183 : lkM mr183 = true := by decide +kernel
theorem lkm184 : lkM mr184 = true := by decide +kernel
theorem lkm185 : lkM mr185 = true := by decide +kernel
theorem lkm186 : lkM mr186 = true := by decide +kernel
theorem lkm187 : lkM mr187 = true := by decide +kernel
theorem lkm188 : lkM mr188 = true := by decide +kernel
theorem lkm189 : lkM mr189 = true := by decide +kernel
theorem lkm190 : lkM mr190 = true := by decide +kernel
theorem lkm191 : lkM mr191 = true := by decide +kernel
theorem lkm192 : lkM mr192 = true := by decide +kernel
theorem lkm193 : lkM mr193 = true := by decide +kernel
theorem lkm194 : lkM mr194 = true := by decide +kernel
theorem lkm195 : lkM mr195 = true := by decide +kernel
theorem lkm196 : lkM mr196 = true := by decide +kernel
theorem lkm197 : lkM mr197 = true := by decide +kernel
theorem lkm198 : lkM mr198 = true := by decide +kernel
theorem lkm199 : lkM mr199 = true := by decide +kernel
theorem lkm200 : lkM mr200 = true := by decide +kernel
theorem lkm201 : lkM mr201 = true := by decide +kernel
theorem lkm202 : lkM mr202 = true := by decide +kernel
theorem lkm203 : lkM mr203 = true := by decide +kernel
theorem lkm204 : lkM mr204 = true := by decide +kernel
theorem lkm205 : lkM mr205 = true := by decide +kernel
theorem lkm206 : lkM mr206 = true := by decide +kernel
theorem lkm207 : lkM mr207 = true := by decide +kernel
theorem lkm208 : lkM mr208 = true := by decide +kernel
theorem lkm209 : lkM mr209 = true := by decide +kernel
theorem lkm210 : lkM mr210 = true := by decide +kernel
theorem lkm211 : lkM mr211 = true := by decide +kernel
theorem lkm212 : lkM mr212 = true := by decide +kernel
theorem lkm213 : lkM mr213 = true := by decide +kernel
theorem lkm214 : lkM mr214 = true := by decide +kernel
theorem lkm215 : lkM mr215 = true := by decide +kernel
theorem lkm216 : lkM mr216 = true := by decide +kernel
theorem lkm217 : lkM mr217 = true := by decide +kernel
theorem lkm218 : lkM mr218 = true := by decide +kernel
theorem lkm219 : lkM mr219 = true := by decide +kernel
theorem lkm220 : lkM mr220 = true := by decide +kernel
theorem lkm221 : lkM mr221 = true := by decide +kernel
theorem lkm222 : lkM mr222 = true := by decide +kernel
theorem lkm223 : lkM mr223 = true := by decide +kernel
theorem lkm224 : lkM mr224 = true := by decide +kernel
theorem lkm225 : lkM mr225 = true := by decide +kernel
theorem lkm226 : lkM mr226 = true := by decide +kernel
theorem lkm227 : lkM mr227 = true := by decide +kernel
theorem lkm228 : lkM mr228 = true := by decide +kernel
theorem lkm229 : lkM mr229 = true := by decide +kernel
theorem lkm230 : lkM mr230 = true := by decide +kernel
theorem lkm231 : lkM mr231 = true := by decide +kernel
theorem lkm232 : lkM mr232 = true := by decide +kernel
theorem lkm233 : lkM mr233 = true := by decide +kernel
theorem lkm234 : lkM mr234 = true := by decide +kernel
theorem lkm235 : lkM mr235 = true := by decide +kernel
theorem lkm236 : lkM mr236 = true := by decide +kernel
theorem lkm237 : lkM mr237 = true := by decide +kernel
theorem lkm238 : lkM mr238 = true := by decide +kernel
theorem lkm239 : lkM mr239 = true := by decide +kernel
theorem lkm240 : lkM mr240 = true := by decide +kernel
theorem lkm241 : lkM mr241 = true := by decide +kernel
theorem lkm242 : lkM mr242 = true := by decide +kernel
theorem lkm243 : lkM mr243 = true := by decide +kernel
theorem lkm244 : lkM mr244 = true := by decide +kernel
theorem lkm245 : lkM mr245 = true := by decide +kernel
theorem lkm246 : lkM mr246 = true := by decide +kernel
theorem lkm247 : lkM mr247 = true := by decide +kernel
theorem lkm248 : lkM mr248 = true := by decide +kernel
theorem lkm249 : lkM mr249 = true := by decide +kernel
theorem lkm250 : lkM mr250 = true := by decide +kernel
theorem lkm251 : lkM mr251 = true := by decide +kernel
theorem lkm252 : lkM mr252 = true := by decide +kernel
theorem lkm253 : lkM mr253 = true := by decide +kernel
theorem lkm254 : lkM mr254 = true := by decide +kernel
theorem lkm255 : lkM mr255 = true := by decide +kernel
theorem lkm256 : lkM mr256 = true := by decide +kernel
theorem lkm257 : lkM mr257 = true := by decide +kernel
theorem lkm258 : lkM mr258 = true := by decide +kernel
theorem lkm259 : lkM mr259 = true := by decide +kernel
theorem lkm260 : lkM mr260 = true := by decide +kernel
theorem lkm261 : lkM mr261 = true := by decide +kernel
theorem lkm262 : lkM mr262 = true := by decide +kernel
theorem lkm263 : lkM mr263 = true := by decide +kernel
theorem lkm264 : lkM mr264 = true := by decide +kernel
theorem lkm265 : lkM mr265 = true := by decide +kernel
theorem lkm266 : lkM mr266 = true := by decide +kernel
theorem lkm267 : lkM mr267 = true := by decide +kernel
theorem lkm268 : lkM mr268 = true := by decide +kernel
theorem lkm269 : lkM mr269 = true := by decide +kernel
theorem lkm270 : lkM mr270 = true := by decide +kernel
theorem lkm271 : lkM mr271 = true := by decide +kernel
theorem lkm272 : lkM mr272 = true := by decide +kernel
theorem lkm273 : lkM mr273 = true := by decide +kernel
theorem lkm274 : lkM mr274 = true := by decide +kernel
theorem lkm275 : lkM mr275 = true := by decide +kernel
theorem lkm276 : lkM mr276 = true := by decide +kernel
theorem lkm277 : lkM mr277 = true := by decide +kernel
theorem lkm278 : lkM mr278 = true := by decide +kernel
theorem lkm279 : lkM mr279 = true := by decide +kernel
theorem lkm280 : lkM mr280 = true := by decide +kernel
theorem lkm281 : lkM mr281 = true := by decide +kernel
theorem lkm282 : lkM mr282 = true := by decide +kernel
theorem lkm283 : lkM mr283 = true := by decide +kernel
theorem lkm284 : lkM mr284 = true := by decide +kernel
theorem lkm285 : lkM mr285 = true := by decide +kernel
theorem lkm286 : lkM mr286 = true := by decide +kernel
theorem lkm287 : lkM mr287 = true := by decide +kernel
theorem lkm288 : lkM mr288 = true := by decide +kernel
theorem lkm289 : lkM mr289 = true := by decide +kernel
theorem lkm290 : lkM mr290 = true := by decide +kernel
theorem lkm291 : lkM mr291 = true := by decide +kernel
theorem lkm292 : lkM mr292 = true := by decide +kernel
theorem lkm293 : lkM mr293 = true := by decide +kernel
theorem lkm294 : lkM mr294 = true := by decide +kernel
theorem lkm295 : lkM mr295 = true := by decide +kernel
theorem lkm296 : lkM mr296 = true := by decide +kernel
theorem lkm297 : lkM mr297 = true := by decide +kernel
theorem lkm298 : lkM mr298 = true := by decide +kernel
theorem lkm299 : lkM mr299 = true := by decide +kernel
theorem lkm300 : lkM mr300 = true := by decide +kernel
theorem lkm301 : lkM mr301 = true := by decide +kernel
theorem lkm302 : lkM mr302 = true := by decide +kernel
theorem lkm303 : lkM mr303 = true := by decide +kernel
theorem lkm304 : lkM mr304 = true := by decide +kernel
theorem lkm305 : lkM mr305 = true := by decide +kernel
theorem lkm306 : lkM mr306 = true := by decide +kernel
theorem lkm307 : lkM mr307 = true := by decide +kernel
theorem lkm308 : lkM mr308 = true := by decide +kernel
theorem lkm309 : lkM mr309 = true := by decide +kernel
theorem lkm310 : lkM mr310 = true := by decide +kernel
theorem lkm311 : lkM mr311 = true := by decide +kernel
theorem lkm312 : lkM mr312 = true := by decide +kernel
theorem lkm313 : lkM mr313 = true := by decide +kernel
theorem lkm314 : lkM mr314 = true := by decide +kernel
theorem lkm315 : lkM mr315 = true := by decide +kernel
set_option maxRecDepth 100000 in
theorem lkA_0 : ∀ q ∈ MT_0, lkM q = true := List.forall_mem_cons.mpr ⟨lkm0, List.forall_mem_cons.mpr ⟨lkm1, List.forall_mem_cons.mpr ⟨lkm2, List.forall_mem_cons.mpr ⟨lkm3, List.forall_mem_cons.mpr ⟨lkm4, List.forall_mem_cons.mpr ⟨lkm5, List.forall_mem_cons.mpr ⟨lkm6, List.forall_mem_cons.mpr ⟨lkm7, List.forall_mem_cons.mpr ⟨lkm8, List.forall_mem_cons.mpr ⟨lkm9, List.forall_mem_cons.mpr ⟨lkm10, List.forall_mem_cons.mpr ⟨lkm11, List.forall_mem_cons.mpr ⟨lkm12, List.forall_mem_cons.mpr ⟨lkm13, List.forall_mem_cons.mpr ⟨lkm14, List.forall_mem_cons.mpr ⟨lkm15, List.forall_mem_cons.mpr ⟨lkm16, List.forall_mem_cons.mpr ⟨lkm17, List.forall_mem_cons.mpr ⟨lkm18, List.forall_mem_cons.mpr ⟨lkm19, List.forall_mem_cons.mpr ⟨lkm20, List.forall_mem_cons.mpr ⟨lkm21, List.forall_mem_cons.mpr ⟨lkm22, List.forall_mem_cons.mpr ⟨lkm23, List.forall_mem_cons.mpr ⟨lkm24, List.forall_mem_cons.mpr ⟨lkm25, List.forall_mem_cons.mpr ⟨lkm26, List.forall_mem_cons.mpr ⟨lkm27, List.forall_mem_cons.mpr ⟨lkm28, List.forall_mem_cons.mpr ⟨lkm29, List.forall_mem_cons.mpr ⟨lkm30, List.forall_mem_cons.mpr ⟨lkm31, List.forall_mem_cons.mpr ⟨lkm32, List.forall_mem_cons.mpr ⟨lkm33, List.forall_mem_cons.mpr ⟨lkm34, List.forall_mem_cons.mpr ⟨lkm35, List.forall_mem_cons.mpr ⟨lkm36, List.forall_mem_cons.mpr ⟨lkm37, List.forall_mem_cons.mpr ⟨lkm38, List.forall_mem_cons.mpr ⟨lkm39, fun _ h => absurd h List.not_mem_nil⟩⟩⟩⟩⟩⟩⟩⟩⟩⟩⟩⟩⟩⟩⟩⟩⟩⟩⟩⟩⟩⟩⟩⟩⟩⟩⟩⟩⟩⟩⟩⟩⟩⟩⟩⟩⟩⟩⟩⟩
set_option maxRecDepth 100000 in
theorem lkA_1 : ∀ q ∈ MT_1, lkM q = true := List.forall_mem_cons.mpr ⟨lkm40, List.forall_mem_cons.mpr ⟨lkm41, List.forall_mem_cons.mpr ⟨lkm42, List.forall_mem_cons.mpr ⟨lkm43, List.forall_mem_cons.mpr ⟨lkm44, List.forall_mem_cons.mpr ⟨lkm45, List.forall_mem_cons.mpr ⟨lkm46, List.forall_mem_cons.mpr ⟨lkm47, List.forall_mem_cons.mpr ⟨lkm48, List.forall_mem_cons.mpr ⟨lkm49, List.forall_mem_cons.mpr ⟨lkm50, List.forall_mem_cons.mpr ⟨lkm51, List.forall_mem_cons.mpr ⟨lkm52, List.forall_mem_cons.mpr ⟨lkm53, List.forall_mem_cons.mpr ⟨lkm54, List.forall_mem_cons.mpr ⟨lkm55, List.forall_mem_cons.mpr ⟨lkm56, List.forall_mem_cons.mpr ⟨lkm57, List.forall_mem_cons.mpr ⟨lkm58, List.forall_mem_cons.mpr ⟨lkm59, List.forall_mem_cons.mpr ⟨lkm60, List.forall_mem_cons.mpr ⟨lkm61, List.forall_mem_cons.mpr ⟨lkm62, List.forall_mem_cons.mpr ⟨lkm63, List.forall_mem_cons.mpr ⟨lkm64, List.forall_mem_cons.mpr ⟨lkm65, List.forall_mem_cons.mpr ⟨lkm66, List.forall_mem_cons.mpr ⟨lkm67, List.forall_mem_cons.mpr ⟨lkm68, List.forall_mem_cons.mpr ⟨lkm69, List.forall_mem_cons.mpr ⟨lkm70, List.forall_mem_cons.mpr ⟨lkm71, List.forall_mem_cons.mpr ⟨lkm72, List.forall_mem_cons.mpr ⟨lkm73, List.forall_mem_cons.mpr ⟨lkm74, List.forall_mem_cons.mpr ⟨lkm75, List.forall_mem_cons.mpr ⟨lkm76, List.forall_mem_cons.mpr ⟨lkm77, List.forall_mem_cons.mpr ⟨lkm78, List.forall_mem_cons.mpr ⟨lkm79, fun _ h => absurd h List.not_mem_nil⟩⟩⟩⟩⟩⟩⟩⟩⟩⟩⟩⟩⟩⟩⟩⟩⟩⟩⟩⟩⟩⟩⟩⟩⟩⟩⟩⟩⟩⟩⟩⟩⟩⟩⟩⟩⟩⟩⟩⟩
set_option maxRecDepth 100000 in
theorem lkA_2 : ∀ q ∈ MT_2, lkM q = true := List.forall_mem_cons.mpr ⟨lkm80, List.forall_mem_cons.mpr ⟨lkm81, List.forall_mem_cons.mpr ⟨lkm82, List.forall_mem_cons.mpr ⟨lkm83, List.forall_mem_cons.mpr ⟨lkm84, List.forall_mem_cons.mpr ⟨lkm85, List.forall_mem_cons.mpr ⟨lkm86, List.forall_mem_cons.mpr ⟨lkm87, List.forall_mem_cons.mpr ⟨lkm88, List.forall_mem_cons.mpr ⟨lkm89, List.forall_mem_cons.mpr ⟨lkm90, List.forall_mem_cons.mpr ⟨lkm91, List.forall_mem_cons.mpr ⟨lkm92, List.forall_mem_cons.mpr ⟨lkm93, List.forall_mem_cons.mpr ⟨lkm94, List.forall_mem_cons.mpr ⟨lkm95, List.forall_mem_cons.mpr ⟨lkm96, List.forall_mem_cons.mpr ⟨lkm97, List.forall_mem_cons.mpr ⟨lkm98, List.forall_mem_cons.mpr ⟨lkm99, List.forall_mem_cons.mpr ⟨lkm100, List.forall_mem_cons.mpr ⟨lkm101, List.forall_mem_cons.mpr ⟨lkm102, List.forall_mem_cons.mpr ⟨lkm103, List.forall_mem_cons.mpr ⟨lkm104, List.forall_mem_cons.mpr ⟨lkm105, List.forall_mem_cons.mpr ⟨lkm106, List.forall_mem_cons.mpr ⟨lkm107, List.forall_mem_cons.mpr ⟨lkm108, List.forall_mem_cons.mpr ⟨lkm109, List.forall_mem_cons.mpr ⟨lkm110, List.forall_mem_cons.mpr ⟨lkm111, List.forall_mem_cons.mpr ⟨lkm112, List.forall_mem_cons.mpr ⟨lkm113, List.forall_mem_cons.mpr ⟨lkm114, List.forall_mem_cons.mpr ⟨lkm115, List.forall_mem_cons.mpr ⟨lkm116, List.forall_mem_cons.mpr ⟨lkm117, List.forall_mem_cons.mpr ⟨lkm118, List.forall_mem_cons.mpr ⟨lkm119, fun _ h => absurd h List.not_mem_nil⟩⟩⟩⟩⟩⟩⟩⟩⟩⟩⟩⟩⟩⟩⟩⟩⟩⟩⟩⟩⟩⟩⟩⟩⟩⟩⟩⟩⟩⟩⟩⟩⟩⟩⟩⟩⟩⟩⟩⟩
set_option maxRecDepth 100000 in
theorem lkA_3 : ∀ q ∈ MT_3, lkM q = true := List.forall_mem_cons.mpr ⟨lkm120, List.forall_mem_cons.mpr ⟨lkm121, List.forall_mem_cons.mpr ⟨lkm122, List.forall_mem_cons.mpr ⟨lkm123, List.forall_mem_cons.mpr ⟨lkm124, List.forall_mem_cons.mpr ⟨lkm125, List.forall_mem_cons.mpr ⟨lkm126, List.forall_mem_cons.mpr ⟨lkm127, List.forall_mem_cons.mpr ⟨lkm128, List.forall_mem_cons.mpr ⟨lkm129, List.forall_mem_cons.mpr ⟨lkm130, List.forall_mem_cons.mpr ⟨lkm131, List.forall_mem_cons.mpr ⟨lkm132, List.forall_mem_cons.mpr ⟨lkm133, List.forall_mem_cons.mpr ⟨lkm134, List.forall_mem_cons.mpr ⟨lkm135, List.forall_mem_cons.mpr ⟨lkm136, List.forall_mem_cons.mpr ⟨lkm137, List.forall_mem_cons.mpr ⟨lkm138, List.forall_mem_cons.mpr ⟨lkm139, List.forall_mem_cons.mpr ⟨lkm140, List.forall_mem_cons.mpr ⟨lkm141, List.forall_mem_cons.mpr ⟨lkm142, List.forall_mem_cons.mpr ⟨lkm143, List.forall_mem_cons.mpr ⟨lkm144, List.forall_mem_cons.mpr ⟨lkm145, List.forall_mem_cons.mpr ⟨lkm146, List.forall_mem_cons.mpr ⟨lkm147, List.forall_mem_cons.mpr ⟨lkm148, List.forall_mem_cons.mpr ⟨lkm149, List.forall_mem_cons.mpr ⟨lkm150, List.forall_mem_cons.mpr ⟨lkm151, List.forall_mem_cons.mpr ⟨lkm152, List.forall_mem_cons.mpr ⟨lkm153, List.forall_mem_cons.mpr ⟨lkm154, List.forall_mem_cons.mpr ⟨lkm155, List.forall_mem_cons.mpr ⟨lkm156, List.forall_mem_cons.mpr ⟨lkm157, List.forall_mem_cons.mpr ⟨lkm158, List.forall_mem_cons.mpr ⟨lkm159, fun _ h => absurd h List.not_mem_nil⟩⟩⟩⟩⟩⟩⟩⟩⟩⟩⟩⟩⟩⟩⟩⟩⟩⟩⟩⟩⟩⟩⟩⟩⟩⟩⟩⟩⟩⟩⟩⟩⟩⟩⟩⟩⟩⟩⟩⟩
set_option maxRecDepth 100000 in
theorem lkA_4 : ∀ q ∈ MT_4, lkM q = true := List.forall_mem_cons.mpr ⟨lkm160, List.forall_mem_cons.mpr ⟨lkm161, List.forall_mem_cons.mpr ⟨lkm162, List.forall_mem_cons.mpr ⟨lkm163, List.forall_mem_cons.mpr ⟨lkm164, List.forall_mem_cons.mpr ⟨lkm165, List.forall_mem_cons.mpr ⟨lkm166, List.forall_mem_cons.mpr ⟨lkm167, List.forall_mem_cons.mpr ⟨lkm168, List.forall_mem_cons.mpr ⟨lkm169, List.forall_mem_cons.mpr ⟨lkm170, List.forall_mem_cons.mpr ⟨lkm171, List.forall_mem_cons.mpr ⟨lkm172, List.forall_mem_cons.mpr ⟨lkm173, List.forall_mem_cons.mpr ⟨lkm174, List.forall_mem_cons.mpr ⟨lkm175, List.forall_mem_cons.mpr ⟨lkm176, List.forall_mem_cons.mpr ⟨lkm177, List.forall_mem_cons.mpr ⟨lkm178, List.forall_mem_cons.mpr ⟨lkm179, List.forall_mem_cons.mpr ⟨lkm180, List.forall_mem_cons.mpr ⟨lkm181, List.forall_mem_cons.mpr ⟨lkm182, List.forall_mem_cons.mpr ⟨lkm183, List.forall_mem_cons.mpr ⟨lkm184, List.forall_mem_cons.mpr ⟨lkm185, List.forall_mem_cons.mpr ⟨lkm186, List.forall_mem_cons.mpr ⟨lkm187, List.forall_mem_cons.mpr ⟨lkm188, List.forall_mem_cons.mpr ⟨lkm189, List.forall_mem_cons.mpr ⟨lkm190, List.forall_mem_cons.mpr ⟨lkm191, List.forall_mem_cons.mpr ⟨lkm192, List.forall_mem_cons.mpr ⟨lkm193, List.forall_mem_cons.mpr ⟨lkm194, List.forall_mem_cons.mpr ⟨lkm195, List.forall_mem_cons.mpr ⟨lkm196, List.forall_mem_cons.mpr ⟨lkm197, List.forall_mem_cons.mpr ⟨lkm198, List.forall_mem_cons.mpr ⟨lkm199, fun _ h => absurd h List.not_mem_nil⟩⟩⟩⟩⟩⟩⟩⟩⟩⟩⟩⟩⟩⟩⟩⟩⟩⟩⟩⟩⟩⟩⟩⟩⟩⟩⟩⟩⟩⟩⟩⟩⟩⟩⟩⟩⟩⟩⟩⟩
set_option maxRecDepth 100000 in
theorem lkA_5 : ∀ q ∈ MT_5, lkM q = true := List.forall_mem_cons.mpr ⟨lkm200, List.forall_mem_cons.mpr ⟨lkm201, List.forall_mem_cons.mpr ⟨lkm202, List.forall_mem_cons.mpr ⟨lkm203, List.forall_mem_cons.mpr ⟨lkm204, List.forall_mem_cons.mpr ⟨lkm205, List.forall_mem_cons.mpr ⟨lkm206, List.forall_mem_cons.mpr ⟨lkm207, List.forall_mem_cons.mpr ⟨lkm208, List.forall_mem_cons.mpr ⟨lkm209, List.forall_mem_cons.mpr ⟨lkm210, List.forall_mem_cons.mpr ⟨lkm211, List.forall_mem_cons.mpr ⟨lkm212, List.forall_mem_cons.mpr ⟨lkm213, List.forall_mem_cons.mpr ⟨lkm214, List.forall_mem_cons.mpr ⟨lkm215, List.forall_mem_cons.mpr ⟨lkm216, List.forall_mem_cons.mpr ⟨lkm217, List.forall_mem_cons.mpr ⟨lkm218, List.forall_mem_cons.mpr ⟨lkm219, List.forall_mem_cons.mpr ⟨lkm220, List.forall_mem_cons.mpr ⟨lkm221, List.forall_mem_cons.mpr ⟨lkm222, List.forall_mem_cons.mpr ⟨lkm223, List.forall_mem_cons.mpr ⟨lkm224, List.forall_mem_cons.mpr ⟨lkm225, List.forall_mem_cons.mpr ⟨lkm226, List.forall_mem_cons.mpr ⟨lkm227, List.forall_mem_cons.mpr ⟨lkm228, List.forall_mem_cons.mpr ⟨lkm229, List.forall_mem_cons.mpr ⟨lkm230, List.forall_mem_cons.mpr ⟨lkm231, List.forall_mem_cons.mpr ⟨lkm232, List.forall_mem_cons.mpr ⟨lkm233, List.forall_mem_cons.mpr ⟨lkm234, List.forall_mem_cons.mpr ⟨lkm235, List.forall_mem_cons.mpr ⟨lkm236, List.forall_mem_cons.mpr ⟨lkm237, List.forall_mem_cons.mpr ⟨lkm238, List.forall_mem_cons.mpr ⟨lkm239, fun _ h => absurd h List.not_mem_nil⟩⟩⟩⟩⟩⟩⟩⟩⟩⟩⟩⟩⟩⟩⟩⟩⟩⟩⟩⟩⟩⟩⟩⟩⟩⟩⟩⟩⟩⟩⟩⟩⟩⟩⟩⟩⟩⟩⟩⟩
set_option maxRecDepth 100000 in
theorem lkA_6 : ∀ q ∈ MT_6, lkM q = true := List.forall_mem_cons.mpr ⟨lkm240, List.forall_mem_cons.mpr ⟨lkm241, List.forall_mem_cons.mpr ⟨lkm242, List.forall_mem_cons.mpr ⟨lkm243, List.forall_mem_cons.mpr ⟨lkm244, List.forall_mem_cons.mpr ⟨lkm245, List.forall_mem_cons.mpr ⟨lkm246, List.forall_mem_cons.mpr ⟨lkm247, List.forall_mem_cons.mpr ⟨lkm248, List.forall_mem_cons.mpr ⟨lkm249, List.forall_mem_cons.mpr ⟨lkm250, List.forall_mem_cons.mpr ⟨lkm251, List.forall_mem_cons.mpr ⟨lkm252, List.forall_mem_cons.mpr ⟨lkm253, List.forall_mem_cons.mpr ⟨lkm254, List.forall_mem_cons.mpr ⟨lkm255, List.forall_mem_cons.mpr ⟨lkm256, List.forall_mem_cons.mpr ⟨lkm257, List.forall_mem_cons.mpr ⟨lkm258, List.forall_mem_cons.mpr ⟨lkm259, List.forall_mem_cons.mpr ⟨lkm260, List.forall_mem_cons.mpr ⟨lkm261, List.forall_mem_cons.mpr ⟨lkm262, List.forall_mem_cons.mpr ⟨lkm263, List.forall_mem_cons.mpr ⟨lkm264, List.forall_mem_cons.mpr ⟨lkm265, List.forall_mem_cons.mpr ⟨lkm266, List.forall_mem_cons.mpr ⟨lkm267, List.forall_mem_cons.mpr ⟨lkm268, List.forall_mem_cons.mpr ⟨lkm269, List.forall_mem_cons.mpr ⟨lkm270, List.forall_mem_cons.mpr ⟨lkm271, List.forall_mem_cons.mpr ⟨lkm272, List.forall_mem_cons.mpr ⟨lkm273, List.forall_mem_cons.mpr ⟨lkm274, List.forall_mem_cons.mpr ⟨lkm275, List.forall_mem_cons.mpr ⟨lkm276, List.forall_mem_cons.mpr ⟨lkm277, List.forall_mem_cons.mpr ⟨lkm278, List.forall_mem_cons.mpr ⟨lkm279, fun _ h => absurd h List.not_mem_nil⟩⟩⟩⟩⟩⟩⟩⟩⟩⟩⟩⟩⟩⟩⟩⟩⟩⟩⟩⟩⟩⟩⟩⟩⟩⟩⟩⟩⟩⟩⟩⟩⟩⟩⟩⟩⟩⟩⟩⟩
set_option maxRecDepth 100000 in
theorem lkA_7 : ∀ q ∈ MT_7, lkM q = true := List.forall_mem_cons.mpr ⟨lkm280, List.forall_mem_cons.mpr ⟨lkm281, List.forall_mem_cons.mpr ⟨lkm282, List.forall_mem_cons.mpr ⟨lkm283, List.forall_mem_cons.mpr ⟨lkm284, List.forall_mem_cons.mpr ⟨lkm285, List.forall_mem_cons.mpr ⟨lkm286, List.forall_mem_cons.mpr ⟨lkm287, List.forall_mem_cons.mpr ⟨lkm288, List.forall_mem_cons.mpr ⟨lkm289, List.forall_mem_cons.mpr ⟨lkm290, List.forall_mem_cons.mpr ⟨lkm291, List.forall_mem_cons.mpr ⟨lkm292, List.forall_mem_cons.mpr ⟨lkm293, List.forall_mem_cons.mpr ⟨lkm294, List.forall_mem_cons.mpr ⟨lkm295, List.forall_mem_cons.mpr ⟨lkm296, List.forall_mem_cons.mpr ⟨lkm297, List.forall_mem_cons.mpr ⟨lkm298, List.forall_mem_cons.mpr ⟨lkm299, List.forall_mem_cons.mpr ⟨lkm300, List.forall_mem_cons.mpr ⟨lkm301, List.forall_mem_cons.mpr ⟨lkm302, List.forall_mem_cons.mpr ⟨lkm303, List.forall_mem_cons.mpr ⟨lkm304, List.forall_mem_cons.mpr ⟨lkm305, List.forall_mem_cons.mpr ⟨lkm306, List.forall_mem_cons.mpr ⟨lkm307, List.forall_mem_cons.mpr ⟨lkm308, List.forall_mem_cons.mpr ⟨lkm309, List.forall_mem_cons.mpr ⟨lkm310, List.forall_mem_cons.mpr ⟨lkm311, List.forall_mem_cons.mpr ⟨lkm312, List.forall_mem_cons.mpr ⟨lkm313, List.forall_mem_cons.mpr ⟨lkm314, List.forall_mem_cons.mpr ⟨lkm315, fun _ h => absurd h List.not_mem_nil⟩⟩⟩⟩⟩⟩⟩⟩⟩⟩⟩⟩⟩⟩⟩⟩⟩⟩⟩⟩⟩⟩⟩⟩⟩⟩⟩⟩⟩⟩⟩⟩⟩⟩⟩⟩
theorem lkAll {i : Nat} {q : mrec} (h : MT[i]? = some q) : lkM q = true := by
  have hm := List.mem_of_getElem? h
  unfold MT at hm
  simp only [List.mem_append] at hm
  rcases hm with (((((((h | h) | h) | h) | h) | h) | h) | h)
  · exact lkA_0 _ h
  · exact lkA_1 _ h
  · exact lkA_2 _ h
  · exact lkA_3 _ h
  · exact lkA_4 _ h
  · exact lkA_5 _ h
  · exact lkA_6 _ h
  · exact lkA_7 _ h

theorem l_H_269 : xLc "HandOverHorse" 269 := ⟨xw_at 1227 (by decide +kernel), xw_at 1229 (by decide +kernel), xw_at 1228 (by decide +kernel), xw_at 95 (by decide +kernel)⟩
theorem l_Wall_67 : xLc "HandOverHorse$Wall" 67 := ⟨xw_at 1251 (by decide +kernel), xw_at 1229 (by decide +kernel), xw_at 1228 (by decide +kernel), xw_at 95 (by decide +kernel)⟩

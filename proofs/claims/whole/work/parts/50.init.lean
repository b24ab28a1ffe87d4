theorem in_p1 : (gX8_0 (zc h00 0)).isSome = true := by decide +kernel

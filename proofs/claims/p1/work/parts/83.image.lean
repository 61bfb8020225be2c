theorem k_image0 : (pc_image 0 hI).isSome = true := by decide +kernel
theorem k_image1 : (pc_image 1 hI).isSome = true := by decide +kernel

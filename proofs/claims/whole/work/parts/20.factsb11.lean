theorem nc_dk_X12_isSaid : nc_dchk cX12_isSaid 5 nc_c_X12_isSaid = true := by decide +kernel
theorem nc_dk_X12_said : nc_dchk cX12_said 4 nc_c_X12_said = true := by decide +kernel
theorem nc_dk_X12_image : nc_dchk cX12_image 3 nc_c_X12_image = true := by decide +kernel
theorem nc_dk_X12_restore : nc_dchk cX12_restore 3 nc_c_X12_restore = true := by decide +kernel
theorem nc_dk_X12_count : nc_dchk cX12_count 2 nc_c_X12_count = true := by decide +kernel
